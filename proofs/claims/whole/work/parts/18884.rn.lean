/-! one call on both sides: run -/
theorem cnt_ex {n : Nat} {f : Nat → Bool} (h : 0 < cnt n f) : ∃ i, i < n ∧ f i = true := by
  induction n with
  | zero => exact absurd h (Nat.lt_irrefl _)
  | succ n ih =>
    have e : cnt (n + 1) f = cnt n f + (if f n = true then 1 else 0) := rfl
    by_cases c : f n = true
    · exact ⟨n, Nat.lt_succ_self n, c⟩
    · rw [e, if_neg c] at h
      obtain ⟨i, i1, i2⟩ := ih (by omega)
      exact ⟨i, by omega, i2⟩
theorem bgn_pos {way w D z : Nat} {C M Q P : Nat → Nat} {g : Nat → Bool} (hD : 0 < D) (hw : 0 < w) (hc : way = 2 → 0 < cnt 64 g) (h : bgn way w D C M g Q z P) : 0 < z := by
  rcases h with ⟨a1, a2, a3⟩ | ⟨a1, a0, a2, a3⟩ | ⟨a1, a0, a2, a3⟩ | ⟨a1, a0, a2, a3⟩
  · obtain ⟨k, k1, k2⟩ := cnt_ex (hc a1)
    rw [a2]
    exact gsz_pos hw k1 k2
  · omega
  · omega
  · have := jz0_le hD
    omega
theorem sp_CL_holdClosest {N D z : Nat} {w h' ssz sst rd : Int32} {he ra ta : Nat → Int32} {S C P : Nat → Nat} {post : (Nat → Int32) → Prop} (hN : N ≤ 576) (hDN : D ≤ N) (hra : ∀ p, p < N → ∃ r, r < D ∧ C r = S p ∧ ra p = nI r) (hta : ∀ k, k < D → ta k = nI (near z P (C k)))
    (h : ∀ he', (∀ p, p < N → he' p = nI (near z P (S p))) → post he') : wpCL_holdClosest N N N w h' he ssz sst ra rd ta post := by
  unfold wpCL_holdClosest
  intro K hK
  have loop : ∀ (d p : Nat) (he : Nat → Int32), p + d = N → (∀ q, q < p → he q = nI (near z P (S q))) → K (nI p) he := by
    intro d
    induction d with
    | zero =>
      intro p he hp hhe
      have : p = N := by omega
      subst this
      apply hK
      unfold vcCL_holdClosest_2
      exact ⟨fun _ => h he hhe, fun q => absurd (nI_le (Nat.le_refl _) (by omega)) q⟩
    | succ d ih =>
      intro p he hp hhe
      obtain ⟨r, r1, r2, r3⟩ := hra p (by omega)
      apply hK
      unfold vcCL_holdClosest_2
      refine ⟨fun q => absurd q (nI_ge (by omega) (by omega)), fun _ => ?_⟩
      simp (disch := omega) only [li_0, li_1, li_2, li_3, li_4, li_8, li_16, li_20, li_24, li_40, li_63, li_64, li_255, li_256, li_576, nI_add, pk_mul, nz_neg, nz_sub, nz_cl, nz_le, nz_lt, nz_eq, nz_in, nz_div, true_and, forall_eq, r3]
      rw [hta r r1, r2]
      refine ih (p + 1) _ (by omega) (fun q hq => ?_)
      by_cases c : q = p
      · rw [c]; exact pk_us
      · rw [pk_un c]; exact hhe q (by omega)
  exact loop N 0 he (by omega) (fun q hq => absurd hq (Nat.not_lt_zero _))
theorem sp_Md_run {W H way w R z D : Nat} {a1 a4 a5 a6 re ms mr : Int32} {msa mig mgi co mm gr row ch sp bm tt me pa ha tk od be : Nat → Int32} {gm su ts rsu : Nat → Int64} {S C M P FP Q : Nat → Nat} {g : Nat → Bool}
    {Φ : Int32 → Int32 → Int32 → Int32 → Int32 → Int32 → Int32 → Int32 → (Nat → Int32) → (Nat → Int32) → (Nat → Int32) → (Nat → Int32) → (Nat → Int32) → (Nat → Int32) → (Nat → Int32) → (Nat → Int32) → (Nat → Int64) → (Nat → Int32) → (Nat → Int64) → (Nat → Int32) → (Nat → Int32) → (Nat → Int32) → (Nat → Int64) → (Nat → Int32) → (Nat → Int32) → (Nat → Int64) → Prop}
    (hN0 : 0 < W * H) (hN : W * H ≤ 576) (hway : way ≤ 2) (hw0 : 0 < w) (hw : w ≤ 64) (hR : R ≤ 20) (hS : chs msa (W * H) S) (hsh : shOK (W * H) S D C M) (ho : moOK g Q mig mgi) (hc : way = 2 → 0 < cnt 64 g) (hb : bgn way w D C M g Q z P) (hz0 : 0 < z) (hz : z ≤ 64)
    (hFP : (way = 2 ∧ FP = rP D C M z P R) ∨ (way < 2 ∧ ordF z (okK D C M z (rP D C M z P R)) FP))
    (h : ∀ d' g' rs' co' mm' gr' row' ch' sp' bm' tt' gm' me' su' pa' ha' tk' ts' od' be' rsu', chs pa' z FP → (∀ p, p < W * H → ha' p = nI (near z FP (S p))) → (∀ i, i ≤ R → rsu' i = lN (nsm D C M z (rP D C M z P i))) → Φ (nI z) 0 d' g' rs' 1 (nI z) (nI R) co' mm' gr' row' ch' sp' bm' tt' gm' me' su' pa' ha' tk' ts' od' be' rsu') :
    wpMd_run 2304 64 256 2304 576 576 576 64 64 64 576 576 2304 4 256 576 64 256 64 256 21 a1 (nI W) (nI H) a4 a5 a6 re ms mr msa mig mgi co mm gr row ch sp bm tt gm me su pa ha tk ts od be rsu (nI way) (nI w) (nI R) Φ := by
  unfold wpMd_run
  intro K hK
  have loop : ∀ (d i : Nat) (d' g' rs' : Int32) (co mm gr row ch sp bm tt : Nat → Int32) (gm : Nat → Int64) (me : Nat → Int32) (su : Nat → Int64) (pa ha tk : Nat → Int32) (ts : Nat → Int64) (od be : Nat → Int32) (rsu : Nat → Int64), i + d = R → chs pa z (rP D C M z P i) → (∀ j, j < i → rsu j = lN (nsm D C M z (rP D C M z P j))) → K (nI i) 0 d' g' rs' re (nI z) (nI R) co mm gr row ch sp bm tt gm me su pa ha tk ts od be rsu := by
    intro d
    induction d with
    | zero =>
      intro i d' g' rs' co mm gr row ch sp bm tt gm me su pa ha tk ts od be rsu hi hpa hrs
      have : i = R := by omega
      subst this
      have hrs' : ∀ j, j ≤ i → vp_updL rsu i (lN (nsp (W * H) S z (rP D C M z P i))) j = lN (nsm D C M z (rP D C M z P j)) := by
        intro j hj
        by_cases c : j = i
        · rw [c, pk_uLs, nsp_D hsh]
        · rw [pk_uLn c]; exact hrs j (by omega)
      apply hK
      unfold vcMd_run_74 vcMd_run_126
      refine ⟨fun _ => ?_, fun q => absurd (nI_le (Nat.le_refl _) (by omega)) q⟩
      refine sp_Md_take rfl hN hz0 hz hS hpa (fun ha' tk' ts' hha hmt => ⟨vp_in_nI (by omega) (by omega), fun q => ?_, fun q => ?_⟩)
      · rw [li_2, nI_eq (by omega) (by omega)] at q
        rcases hFP with ⟨-, e⟩ | ⟨c, -⟩
        · rw [nz_cl (by omega)]
          exact h _ _ _ _ _ _ _ _ _ _ _ _ _ _ _ _ _ _ _ _ _ (by rw [e]; exact hpa) (by rw [e]; exact hha) hrs'
        · omega
      · rw [li_2, nI_eq (by omega) (by omega)] at q
        rcases hFP with ⟨c, -⟩ | ⟨-, hord⟩
        · exact absurd c q
        · refine sp_Md_arrange (w := fun j => tkp (W * H) S z (rP D C M z P i) j) hz hpa (fun j hj => ⟨(hmt j hj).1, Nat.le_trans tkp_le hN⟩) (fun FP' pa' od' be' hord' hpa' => ?_)
          have e := ordF_one hord hord' (fun j hj => by
            unfold okK
            rw [tkp_D hsh])
          have hpa2 : chs pa' z FP := chs_cg hpa' e
          rw [nz_cl (by omega)]
          refine sp_Md_take rfl hN hz0 hz hS hpa2 (fun ha'' tk'' ts'' hha' hmt' => ?_)
          exact h _ _ _ _ _ _ _ _ _ _ _ _ _ _ _ _ _ _ _ _ _ hpa2 hha' hrs'
    | succ d ih =>
      intro i d' g' rs' co mm gr row ch sp bm tt gm me su pa ha tk ts od be rsu hi hpa hrs
      apply hK
      unfold vcMd_run_74
      refine ⟨fun q => absurd q (nI_ge (by omega) (by omega)), fun _ => ?_⟩
      refine sp_Md_take rfl hN hz0 hz hS hpa (fun ha' tk' ts' hha hmt => ⟨vp_in_nI (by omega) (by omega), ?_⟩)
      refine sp_Md_toMeans hN hz hsh hpa hmt (fun pa' hpa' => ?_)
      rw [nz_cl (by omega), nI_1]
      refine ih (i + 1) _ _ _ _ _ _ _ _ _ _ _ _ _ _ _ _ _ _ _ _ _ (by omega) hpa' (fun j hj => ?_)
      by_cases c : j = i
      · rw [c, pk_uLs, nsp_D hsh]
      · rw [pk_uLn c]; exact hrs j (by omega)
  refine ⟨fun q => absurd q (nI_n0 (by omega)), fun _ => ⟨fun q => absurd q ?_, fun _ => ⟨fun q => absurd q ?_, fun _ => ⟨fun q => absurd q ?_, fun _ => ⟨fun q => absurd q (nI_n0 (by omega)), fun _ => ⟨fun q => absurd q ?_, fun _ => ⟨fun _ => ?_, fun q => sp_Md_givenCount (fun k hk => (ho k hk).1) ⟨fun _ => ?_, fun q2 => absurd q2 ?_⟩⟩⟩⟩⟩⟩⟩⟩
  · rw [li_2, nI_ltI (by omega) (by omega)]; omega
  · rw [li_1, nI_ltI (by omega) (by omega)]; omega
  · rw [li_64, nI_ltI (by omega) (by omega)]; omega
  · rw [li_20, nI_ltI (by omega) (by omega)]; omega
  rotate_left 2
  · rw [li_2, nI_eq (by omega) (by omega)] at q
    have := cnt_le 64 g
    exact nz0 (hc q) (by omega)
  all_goals
    unfold vcMd_run_47 vcMd_run_48
    refine ⟨fun _ => ?_, fun q => absurd (by decide) q⟩
    refine sp_Md_begin rfl hN0 hN hway hw0 hw hS hsh ho (fun d' g' rs' cs' ms' gr' row' ch' sp' bm' th' gm' me' su' z' P' pa' hz' hb' hpa' => ?_)
    obtain ⟨e1, e2⟩ := bgn_one hb hb'
    subst e1
    exact loop R 0 _ _ _ _ _ _ _ _ _ _ _ _ _ _ _ _ _ _ _ _ _ (by omega) (chs_cg hpa' e2) (fun j hj => absurd hj (Nat.not_lt_zero _))
theorem op_run {W H : Nat} {sa he sti sma sra oti oth plv fta msa mig mgi mpa mha : Nat → Int32} {ssz sst osz psz frd re ms mr : Int32} {fmi mrs : Nat → Int64} {ske fke out : Nat → Int64} {brow bst ben bwe bsp bwi pto pma pme ftk : Nat → Int32} {bsz pz x1 x2 x3 a1 a4 a5 a6 : Int32} {co mm gr row ch sp bm tt me tk od be : Nat → Int32} {gm su ts : Nat → Int64}
    {Ψ : Int32 → (Nat → Int32) → Int32 → Int32 → (Nat → Int32) → (Nat → Int32) → (Nat → Int32) → (Nat → Int64) → Int32 → (Nat → Int32) → (Nat → Int32) → (Nat → Int32) → (Nat → Int32) → (Nat → Int32) → (Nat → Int32) → Int32 → (Nat → Int32) → (Nat → Int32) → (Nat → Int32) → Int32 → (Nat → Int32) → Int32 → (Nat → Int32) → (Nat → Int64) → (Nat → Int32) → (Nat → Int64) → (Nat → Int64) → Prop}
    (hW0 : 0 < W) (hH0 : 0 < H) (hW : W ≤ 24) (hH : H ≤ 24) (hA : alk W H sa he ssz sst sti sma sra osz oti oth psz plv frd fta fmi re ms mr msa mig mgi mpa mha mrs)
    (h : ∀ e he' ssz' sst' sti' sma' sra' ske' bsz' brow' bst' ben' bwe' bsp' bwi' pz' pto' pma' pme' psz' plv' frd' fta' fmi' ftk' fke' out',
      (∀ Φ : Int32 → Int32 → Int32 → Int32 → Int32 → Int32 → Int32 → Int32 → (Nat → Int32) → (Nat → Int32) → (Nat → Int32) → (Nat → Int32) → (Nat → Int32) → (Nat → Int32) → (Nat → Int32) → (Nat → Int32) → (Nat → Int64) → (Nat → Int32) → (Nat → Int64) → (Nat → Int32) → (Nat → Int32) → (Nat → Int32) → (Nat → Int64) → (Nat → Int32) → (Nat → Int32) → (Nat → Int64) → Prop,
        (∀ r2 d' g' rs' re' ms' mr' co' mm' gr' row' ch' sp' bm' tt' gm' me' su' pa' ha' tk' ts' od' be' rsu', alk W H sa he' ssz' sst' sti' sma' sra' osz oti oth psz' plv' frd' fta' fmi' re' ms' mr' msa mig mgi pa' ha' rsu' → (e = 0 → out' 0 = r2.toInt64) → Φ r2 e d' g' rs' re' ms' mr' co' mm' gr' row' ch' sp' bm' tt' gm' me' su' pa' ha' tk' ts' od' be' rsu') →
        wpMd_run 2304 64 256 2304 576 576 576 64 64 64 576 576 2304 4 256 576 64 256 64 256 21 a1 (nI W) (nI H) a4 a5 a6 re ms mr msa mig mgi co mm gr row ch sp bm tt gm me su mpa mha tk ts od be mrs x1 x2 x3 Φ) →
      Ψ e he' ssz' sst' sti' sma' sra' ske' bsz' brow' bst' ben' bwe' bsp' bwi' pz' pto' pma' pme' psz' plv' frd' fta' fmi' ftk' fke' out') :
    wpLw_run (W * H) (W * H) (W * H) (W * H) (W * H) (W * H) (W * H) 64 64 64 64 64 256 64 64 64 64 256 (W * H) 21 64 64 1 (nI W) (nI H) sa he ssz sst sti sma sra ske bsz brow bst ben bwe bsp bwi pz pto pma pme osz oti oth psz plv frd fta fmi ftk fke out x1 x2 x3 Ψ := by
  have hN := wh_le hW hH
  have hN0 : 0 < W * H := Nat.mul_pos hW0 hH0
  obtain ⟨S, gv, Q, k1, k2, k3, k4, k5, k6, k7⟩ := id hA
  have hcl := cnt_le 64 gv
  unfold wpLw_run
  by_cases hok : ∃ way w R, way ≤ 2 ∧ 0 < w ∧ w ≤ 64 ∧ R ≤ 20 ∧ x1 = nI way ∧ x2 = nI w ∧ x3 = nI R ∧ (way = 2 → 0 < cnt 64 gv)
  · left
    obtain ⟨way, w, R, o1, o2, o3, o4, rfl, rfl, rfl, o5⟩ := hok
    unfold wpCL_run
    refine ⟨fun q => absurd q (nI_n0 (by omega)), fun _ => ⟨fun _ => ⟨fun q => absurd q ?_, fun _ => ⟨fun _ => ⟨fun q => absurd q (nI_n0 (by omega)), fun _ => ⟨fun _ => ⟨fun _ => ?_, fun q => ⟨fun _ => ?_, fun q2 => absurd q2 ?_⟩⟩, fun q => absurd ?_ q⟩⟩, fun q => absurd ?_ q⟩⟩, fun q => absurd ?_ q⟩⟩
    · rw [li_1, nI_ltI (by omega) (by omega)]; omega
    rotate_left 2
    · rw [li_2, nI_eq (by omega) (by omega)] at q
      rw [k5]
      exact nz0 (o5 q) (by omega)
    · rw [li_20]; exact nI_le o4 (by omega)
    · rw [li_64]; exact nI_le o3 (by omega)
    · rw [li_2]; exact nI_le o1 (by omega)
    all_goals
      unfold vcCL_run_85
      refine sp_gather hN k1 k6 (fun sz' ti' ma' ra' ke' hg => ?_)
      unfold wpPa_drop
      obtain ⟨D, C, M, g1, rfl, g3, g4⟩ := id hg
      have hDN := shOK_D g1
      have hD0 := shOK_D0 g1 hN0
      have hCB := shOK_C g1 (fun p hp => (k1 p hp).1)
      have hMt : tot D M ≤ 576 := by rw [shOK_N g1]; exact hN
      have ht : ∀ k, k < D → C k < 4294967296 ∧ ti' k = nI (C k) := fun k hk => ⟨hCB k hk, (g3 k hk).1⟩
      have hma : ∀ k, k < D → ma' k = nI (M k) := fun k hk => (g3 k hk).2
      refine sp_CL_fillPalette (C := C) (M := M) hN hDN hD0 o1 o2 o3 g1.1 ht hma (fun k hk => (shOK_M g1 hk).1) hMt k3 (fun ke'' bs' row' sta' en' we' sp' wi' ps' to' mb' me' z P lv' hz hb hlv => ?_)
      have hz0 := bgn_pos hD0 o2 o5 hb
      have fin : ∀ (FP : Nat → Nat) he' fta' fmi' plv' ke3 pz' pto' pma' pme' ftk' fke', ((way = 2 ∧ FP = rP D C M z P R) ∨ (way < 2 ∧ ordF z (okK D C M z (rP D C M z P R)) FP)) → chs plv' z FP → (∀ k, k < D → fta' k = nI (near z FP (C k))) → (∀ i, i ≤ R → fmi' i = lN (nsm D C M z (rP D C M z P i))) → (∀ p, p < W * H → he' p = nI (near z FP (S p))) →
          Ψ 0 he' (nI D) 0 ti' ma' ra' ke3 bs' row' sta' en' we' sp' wi' pz' pto' pma' pme' (nI z) plv' (nI R) fta' fmi' ftk' fke' (vp_updL out 0 (nI z).toInt64) := by
        intro FP he' fta' fmi' plv' ke3 pz' pto' pma' pme' ftk' fke' hFP hpl hta hmi hhe
        refine h _ _ _ _ _ _ _ _ _ _ _ _ _ _ _ _ _ _ _ _ _ _ _ _ _ _ _ (fun Φ hΦ => ?_)
        refine sp_Md_run hN0 hN o1 o2 o3 o4 k2 g1 k4 o5 hb hz0 hz hFP (fun d' g' rs' co' mm' gr' row' ch' sp' bm' tt' gm' me' su' pa' ha' tk' ts' od' be' rsu' e1 e2 e3 => ?_)
        refine hΦ _ _ _ _ _ _ _ _ _ _ _ _ _ _ _ _ _ _ _ _ _ _ _ _ _ ⟨S, gv, Q, k1, k2, k3, k4, k5, fun _ => hg, Or.inr ⟨rfl, z, R, D, FP, C, M, hz0, hz, o4, rfl, rfl, rfl, rfl, rfl, hpl, e1, fun i hi => by rw [hmi i hi, e3 i hi], fun p hp => ⟨near z FP (S p), near_lt hz0, hhe p hp, e2 p hp⟩, g1, hta⟩⟩ (fun _ => pk_uLs)
      refine sp_Fi_bringToMeans (C := C) (M := M) hN hDN hz0 hz o4 ht hma hMt hlv (fun ta2 mi2 lv2 ps2 to2 mb2 b1 b2 b3 => ⟨fun q => ?_, fun q => ?_⟩)
      · rw [li_2, nI_eq (by omega) (by omega)] at q
        unfold vcCL_run_149
        exact sp_CL_holdClosest hN hDN g4 b1 (fun he' hhe => ⟨vp01, fin _ _ _ _ _ _ _ _ _ _ _ _ (Or.inl ⟨q, rfl⟩) b3 b1 b2 hhe⟩)
      · rw [li_2, nI_eq (by omega) (by omega)] at q
        refine sp_Fi_putInOrder (C := C) (M := M) hN hDN hz0 hz ht hma hMt b3 b1 (fun FP ta3 tk3 ke3 lv3 d1 d2 d3 => ?_)
        unfold vcCL_run_149
        exact sp_CL_holdClosest hN hDN g4 d3 (fun he' hhe => ⟨vp01, fin _ _ _ _ _ _ _ _ _ _ _ _ (Or.inr ⟨by omega, d1⟩) d2 d3 b2 hhe⟩)
  · right
    have e1 : ∀ way w R, way ≤ 2 → 0 < w → w ≤ 64 → R ≤ 20 → x1 = nI way → x2 = nI w → x3 = nI R → way = 2 ∧ cnt 64 gv = 0 := by
      intro way w R c1 c2 c3 c4 c5 c6 c7
      refine Classical.byContradiction (fun q => hok ⟨way, w, R, c1, c2, c3, c4, c5, c6, c7, fun q2 => ?_⟩)
      rcases Nat.eq_zero_or_pos (cnt 64 gv) with z | z
      · exact absurd ⟨q2, z⟩ q
      · exact z
    have e2 : ¬ x1 < 0 → x1 ≤ 2 → ¬ x2 < 1 → x2 ≤ 64 → ¬ x3 < 0 → x3 ≤ 20 → x1 = 2 ∧ osz = 0 := by
      intro q1 q2 q3 q4 q5 q6
      obtain ⟨way, w1, rfl⟩ := n_of q1
      obtain ⟨R, r1, rfl⟩ := n_of q5
      have q7 : ¬ x2 < 0 := fun q => q3 (Int32.lt_of_lt_of_le q (by decide))
      obtain ⟨w, w2, rfl⟩ := n_of q7
      rw [li_2, nI_leI (by omega) (by omega)] at q2
      rw [li_1, nI_ltI (by omega) (by omega)] at q3
      rw [li_64, nI_leI (by omega) (by omega)] at q4
      rw [li_20, nI_leI (by omega) (by omega)] at q6
      obtain ⟨s1, s2⟩ := e1 way w R q2 (by omega) q4 q6 rfl rfl rfl
      rw [k5, s1, s2]
      exact ⟨rfl, rfl⟩
    refine ⟨?_, h _ _ _ _ _ _ _ _ _ _ _ _ _ _ _ _ _ _ _ _ _ _ _ _ _ _ _ (fun Φ hΦ => ?_)⟩
    · unfold wxCL_run xcCL_run_9 xcCL_run_30 xcCL_run_50
      refine ⟨fun _ => rfl, fun q1 => ⟨fun q2 => ⟨fun _ => rfl, fun q3 => ⟨fun q4 => ⟨fun _ => rfl, fun q5 => ⟨fun q6 => ⟨fun q7 => ?_, fun q7 => ⟨fun q8 => ?_, fun _ => rfl⟩⟩, fun _ => rfl⟩⟩, fun _ => rfl⟩⟩, fun _ => rfl⟩⟩
      · exact q7 (e2 q1 q2 q3 q4 q5 q6).1
      · exact q8 (e2 q1 q2 q3 q4 q5 q6).2
    · unfold wpMd_run
      intro K hK
      unfold vcMd_run_43 vcMd_run_47
      refine ⟨fun _ => ?_, fun q1 => ⟨fun _ => ?_, fun q2 => ⟨fun _ => ?_, fun q3 => ⟨fun _ => ?_, fun q4 => ⟨fun _ => ?_, fun q5 => ⟨fun _ => ?_, fun q6 => ⟨fun q7 => ?_, fun q7 => sp_Md_givenCount (fun k hk => (k4 k hk).1) ⟨fun q8 => ?_, fun q8 => ?_⟩⟩⟩⟩⟩⟩⟩⟩
      all_goals first
        | exact absurd (e2 q1 (Int32.not_lt.mp q2) q3 (Int32.not_lt.mp q4) q5 (Int32.not_lt.mp q6)).1 q7
        | exact absurd (k5.symm.trans (e2 q1 (Int32.not_lt.mp q2) q3 (Int32.not_lt.mp q4) q5 (Int32.not_lt.mp q6)).2) q8
        | (unfold vcMd_run_48
           exact ⟨fun q => absurd q (by decide), fun _ => hΦ _ _ _ _ _ _ _ _ _ _ _ _ _ _ _ _ _ _ _ _ _ _ _ _ _ hA (fun q => absurd q n10)⟩)
