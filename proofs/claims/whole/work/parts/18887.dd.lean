/-! one call on both sides: dither -/
theorem sp_CL_other {N D W z kind : Nat} {w h' ssz sst rd : Int32} {he ra ta : Nat → Int32} {S C P : Nat → Nat} {post : Int32 → Prop} (hN : N ≤ 576) (hDN : D ≤ N) (hz0 : 0 < z) (hz : z ≤ 64) (hra : ∀ p, p < N → ∃ r, r < D ∧ C r = S p ∧ ra p = nI r) (hta : ∀ k, k < D → ta k = nI (near z P (C k))) (hhe : ∀ p, p < N → he p = nI (dhp W S z P kind p))
    (h : post (nI (dct N W S z P kind))) : wpCL_heldOtherThanClosest N N N w h' he ssz sst ra rd ta post := by
  unfold wpCL_heldOtherThanClosest
  intro K hK
  have loop : ∀ (d p : Nat), p + d = N → K (nI (dct p W S z P kind)) (nI p) := by
    intro d
    induction d with
    | zero =>
      intro p hp
      have : p = N := by omega
      subst this
      apply hK
      unfold vcCL_heldOtherThanClosest_4
      exact ⟨fun _ => h, fun q => absurd (nI_le (Nat.le_refl _) (by omega)) q⟩
    | succ d ih =>
      intro p hp
      have hn := ih (p + 1) (by omega)
      have hl1 := dhp_lt (W := W) (S := S) (P := P) (kind := kind) (p := p) hz0
      have hl2 := near_lt (P := P) (t := S p) hz0
      obtain ⟨r, r1, r2, r3⟩ := hra p (by omega)
      apply hK
      unfold vcCL_heldOtherThanClosest_4 vcCL_heldOtherThanClosest_42
      rw [nz_cl (by omega), hhe p (by omega), r3, nz_cl (by omega), hta r r1, r2, nI_eq (by omega) (by omega), nI_1, nI_1]
      refine ⟨fun q => absurd q (nI_ge (by omega) (by omega)), fun _ => ⟨vp_in_nI (by omega) (by omega), vp_in_nI (by omega) (by omega), vp_in_nI (by omega) (by omega), fun q => ?_, fun q => ?_⟩⟩
      · rw [dct_s.1 q] at hn
        exact hn
      · rw [dct_s.2 q] at hn
        exact hn
  exact loop N 0 (by omega)
theorem op_dither {W H : Nat} {sa he sti sma sra oti oth plv fta msa mig mgi mpa mha : Nat → Int32} {ssz sst osz psz frd re ms mr : Int32} {fmi mrs : Nat → Int64} {ah cb wi bf ca : Nat → Int32} {out : Nat → Int64} {x a1 a4 a5 a6 : Int32} {Ψ : Int32 → (Nat → Int32) → (Nat → Int32) → (Nat → Int32) → (Nat → Int32) → (Nat → Int64) → Prop} (hW0 : 0 < W) (hH0 : 0 < H) (hW : W ≤ 24) (hH : H ≤ 24) (hA : alk W H sa he ssz sst sti sma sra osz oti oth psz plv frd fta fmi re ms mr msa mig mgi mpa mha mrs)
    (h : ∀ e he' ah' be' wi' out', (∀ Φ : Int32 → Int32 → (Nat → Int32) → (Nat → Int32) → (Nat → Int32) → Prop, (∀ r2 ha' bf' ca', alk W H sa he' ssz sst sti sma sra osz oti oth psz plv frd fta fmi re ms mr msa mig mgi mpa ha' mrs → (e = 0 → out' 0 = r2.toInt64) → Φ r2 e ha' bf' ca') → wpMd_dither 2304 256 576 256 2304 a1 (nI W) (nI H) a4 a5 a6 re ms mr msa mpa mha bf ca x Φ) → Ψ e he' ah' be' wi' out') :
    wpLw_dither (W * H) (W * H) (W * H) 256 (W * H) 4 (4 * W) 4 1 (nI W) (nI H) sa he ssz sst sra psz plv frd fta ah cb wi out x Ψ := by
  have hN := wh_le hW hH
  obtain ⟨S, gv, Q, k1, k2, k3, k4, k5, k6, k7⟩ := id hA
  unfold wpLw_dither
  rcases k7 with ⟨rfl, rfl⟩ | ⟨c0, z, R, D, P, C, M, c1, c2, c3, rfl, rfl, rfl, c7, c8, c9, c10, c11, c12, c13, c14⟩
  · right; left
    refine ⟨by unfold wxCL_dither; exact Or.inr sp_cpalx, h _ _ _ _ _ _ (fun Φ hΦ => ?_)⟩
    unfold wpMd_dither vcMd_dither_14 vcMd_dither_15
    intro K25 K55 K84 K181 h25 h55 h84 h181
    refine ⟨fun _ => ?_, fun _ => ⟨fun _ => ?_, fun _ => ?_⟩⟩
    all_goals exact sp_te0 ⟨fun q => absurd rfl q, fun _ => hΦ _ _ _ _ hA (fun q => absurd q n10)⟩
  · by_cases hk : ∃ k, k ≤ 2 ∧ x = nI k
    · obtain ⟨kind, hkd, rfl⟩ := hk
      left
      obtain ⟨D', C', M', g1, g2, g3, g4⟩ := k6 c0
      obtain ⟨e1, e2⟩ := shOK_one c13 g1
      subst e1
      have g4' : ∀ p, p < W * H → ∃ r, r < D ∧ C r = S p ∧ sra p = nI r := by
        intro p hp
        obtain ⟨r, r1, r2, r3⟩ := g4 p hp
        exact ⟨r, r1, by rw [(e2 r r1).1]; exact r2, r3⟩
      have hDN := shOK_D c13
      have fin : ∀ he' ah' be' wi', (∀ p, p < W * H → he' p = nI (dhp W S z P kind p)) → vcCL_dither_48 (W * H) (W * H) (W * H) 256 (W * H) 4 (4 * W) 4 (nI W) (nI H) sa ssz sst sra (nI z) plv frd fta (nI kind) (fun r_5 he' ah' be' wi' => vp_in 0 1 ∧ Ψ 0 he' ah' be' wi' (vp_updL out (0 : Int32).toNatClampNeg r_5.toInt64)) he' ah' be' wi' := by
        intro he' ah' be' wi' hhe
        unfold vcCL_dither_48
        refine sp_CL_other (W := W) (kind := kind) hN hDN c1 c2 g4' c14 hhe ⟨vp01, h _ _ _ _ _ _ (fun Φ hΦ => ?_)⟩
        refine sp_Md_dither hW0 hH0 hW hH c1 c2 hkd k2 c10 (fun ha' bf' ca' hha => ?_)
        refine hΦ _ _ _ _ ⟨S, gv, Q, k1, k2, k3, k4, k5, k6, Or.inr ⟨c0, z, R, D, P, C, M, c1, c2, c3, rfl, rfl, rfl, c7, c8, c9, c10, c11, fun p hp => ⟨_, dhp_lt c1, hhe p hp, hha p hp⟩, c13, c14⟩⟩ (fun _ => pk_uLs)
      unfold wpCL_dither
      refine sp_cpal c1 c2 ⟨fun q => absurd q (nI_n0 (by omega)), fun _ => ⟨fun _ => ⟨fun q => ⟨fun q2 => ?_, fun q2 => ?_⟩, fun q => ?_⟩, fun q => absurd ?_ q⟩⟩
      · rw [li_0, nI_eq (by omega) (by omega)] at q
        rw [li_2, nI_eq (by omega) (by omega)] at q2
        unfold vcCL_dither_45
        refine sp_CL_holdWithCarry (tn := false) hW0 hW hH rfl c1 c2 c9 k1 rfl (fun he' ah' be' wi' hhe => fin _ _ _ _ (fun p hp => ?_))
        unfold dhp
        rw [if_neg q, decide_eq_false q2]
        exact hhe p hp
      · rw [li_0, nI_eq (by omega) (by omega)] at q
        rw [li_2, nI_eq (by omega) (by omega)] at q2
        unfold vcCL_dither_45
        refine sp_CL_holdWithCarry (tn := true) hW0 hW hH rfl c1 c2 c9 k1 rfl (fun he' ah' be' wi' hhe => fin _ _ _ _ (fun p hp => ?_))
        unfold dhp
        rw [if_neg q, decide_eq_true q2]
        exact hhe p hp
      · rw [li_0, nI_eq (by omega) (by omega)] at q
        refine sp_CL_holdClosest hN hDN g4' c14 (fun he' hhe => fin _ _ _ _ (fun p hp => ?_))
        unfold dhp
        rw [if_pos q]
        exact hhe p hp
      · rw [li_2]; exact nI_le hkd (by omega)
    · right; right
      have hno : ¬ x < 0 → ¬ x ≤ 2 := by
        intro q1 q2
        obtain ⟨j, j1, j2⟩ := n_of q1
        rw [j2, li_2, nI_leI (by omega) (by omega)] at q2
        exact hk ⟨j, q2, j2⟩
      refine ⟨?_, h _ _ _ _ _ _ (fun Φ hΦ => ?_)⟩
      · unfold wxCL_dither xcCL_dither_13
        exact Or.inl (sp_cpal c1 c2 ⟨fun _ => rfl, fun q => ⟨fun q2 => absurd q2 (hno q), fun _ => rfl⟩⟩)
      · unfold wpMd_dither vcMd_dither_14 vcMd_dither_15
        intro K25 K55 K84 K181 h25 h55 h84 h181
        refine ⟨fun _ => ?_, fun q => ⟨fun _ => ?_, fun q2 => absurd (Int32.not_lt.mp q2) (hno q)⟩⟩
        all_goals exact sp_te2 rfl ⟨fun q => absurd rfl q, fun _ => hΦ _ _ _ _ hA (fun q => absurd q (by decide))⟩
