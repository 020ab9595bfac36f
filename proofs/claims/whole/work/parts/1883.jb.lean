/-! the model's first palette -/
theorem sp_Md_join {D w : Nat} {a1 a2 a3 a4 a5 a6 a7 a8 : Int32} {cs ms gr row ch sp bm th me : Nat → Int32} {gm su : Nat → Int64} {C M : Nat → Nat}
    {post : Int32 → Int32 → (Nat → Int32) → (Nat → Int32) → (Nat → Int32) → (Nat → Int32) → (Nat → Int32) → (Nat → Int32) → (Nat → Int64) → (Nat → Int32) → (Nat → Int64) → Prop}
    (hD : D ≤ 576) (hw0 : 0 < w) (hw : w ≤ 64) (hwD : w < D) (hC0 : ∀ i j, i < j → j < D → C i < C j) (hC : chs cs D C) (hM : ∀ k, k < D → ms k = nI (M k)) (hM0 : ∀ k, k < D → 0 < M k) (hMt : tot D M ≤ 576)
    (h : ∀ rs gr' row' ch' sp' bm' th' gm' me' su' e, mjOK D C M (jz0 D - (jz0 D - w)) (jG D C M (jz0 D) (jg0 D C M) (jz0 D - w)) e (jz0 D) gr' th' gm' me' → post (nI (jz0 D)) rs gr' row' ch' sp' bm' th' gm' me' su') :
    wpMd_join 2304 576 576 576 64 64 64 576 576 2304 4 a1 a2 a3 (nI D) a4 a5 a6 a7 a8 cs ms gr row ch sp bm th gm me su (nI w) post := by
  unfold wpMd_join
  intro K28 K51 K82 h28 h51 h82
  have hz := jz0_le (D := D) (by omega)
  have hf := jg0_fil hD hC0 (fun k hk => (hC k hk).1) hMt
  have after : ∀ rs gr row ch sp bm, (∀ k, k < D → gr k = nI (jg0 D C M k)) → K51 (nI 0) (nI (jz0 D)) rs gr row ch sp bm th gm me su := by
    intro rs gr row ch sp bm hgr
    have l82 : ∀ (d i : Nat) (gr th me : Nat → Int32) (gm su : Nat → Int64) (e : Nat → Nat), i + d = jz0 D - w → mjOK D C M (jz0 D - i) (jG D C M (jz0 D) (jg0 D C M) i) e (jz0 D) gr th gm me → K82 (nI (jz0 D - i)) (nI (jz0 D)) rs gr row ch sp bm th gm me su := by
      intro d
      induction d with
      | zero =>
        intro i gr th me gm su e hi hmj
        have : i = jz0 D - w := by omega
        subst this
        apply h82
        unfold vcMd_join_82
        exact ⟨fun _ => h _ _ _ _ _ _ _ _ _ _ e hmj, fun q => absurd (nI_le (by omega) (by omega)) q⟩
      | succ d ih =>
        intro i gr th me gm su e hi hmj
        apply h82
        unfold vcMd_join_82
        refine ⟨fun q => absurd q (nI_ge (by omega) (by omega)), fun _ => ?_⟩
        refine sp_Md_joinOne (C := C) (M := M) (by omega) (by omega) (by omega) (by omega) (by omega) (by omega) hD (by omega) (by omega) (by omega) hz.1 (by omega) (by omega) (by omega) hC hM hM0 hMt (by omega) (by omega) (jG_fil hf hM0 hMt hz.1 i (by omega)) hmj (fun gr' th' gm' me' su' e' hmj' => ?_)
        simp (disch := omega) only [li_0, li_1, li_2, li_3, li_4, li_8, li_16, li_20, li_24, li_40, li_63, li_64, li_255, li_256, li_576, nI_add, pk_mul, nz_neg, nz_sub, nz_cl, nz_le, nz_lt, nz_eq, nz_in, nz_div, true_and, forall_eq]
        refine ih (i + 1) gr' th' me' gm' su' e' (by omega) ?_
        exact hmj'
    have l51 : ∀ (d g : Nat) (th me : Nat → Int32) (gm su : Nat → Int64), g + d = jz0 D → (∀ j, j < g → th j = 1 ∧ gm j = lN (sm D (pb (jg0 D C M) j) M) ∧ chA me (4 * j) (mcol D C M (pb (jg0 D C M) j))) → K51 (nI g) (nI (jz0 D)) rs gr row ch sp bm th gm me su := by
      intro d
      induction d with
      | zero =>
        intro g th me gm su hg hj
        have : g = jz0 D := by omega
        subst this
        apply h51
        unfold vcMd_join_51
        refine ⟨fun _ => ?_, fun q => absurd (nI_le (Nat.le_refl _) (by omega)) q⟩
        have := l82 (jz0 D - w) 0 gr th me gm su (fun k => k) (by omega)
        rw [Nat.sub_zero] at this
        refine this ⟨⟨fun i j hij hj => hij, fun j hj => hj, fun g hg => ⟨fun _ => ⟨g, hg, rfl⟩, fun _ => ?_⟩⟩, hgr, fun j hjz => (hj j hjz).2⟩
        rw [(hj g hg).1]
        decide
      | succ d ih =>
        intro g th me gm su hg hj
        apply h51
        unfold vcMd_join_51
        refine ⟨fun q => absurd q (nI_ge (by omega) (by omega)), fun _ => ⟨vp_in_nI (by omega) (by omega), ?_⟩⟩
        refine sp_Md_findMean (D := D) (C := C) (M := M) (G := jg0 D C M) (by omega) (by omega) (by omega) (by omega) (by omega) hD (by omega) (by omega) (by omega) (by omega) (by omega) (by omega) hC hM hMt (fun k hk => ⟨?_, hgr k hk⟩) (fil_W hf hM0 hMt (by omega)).1 (fun su' => ?_)
        · have := hf.1 k hk; omega
        · rw [nz_cl (by omega), vnb1]
          rw [nI_1]
          refine ih (g + 1) _ _ _ _ (by omega) (fun j hjg => ?_)
          by_cases e : j = g
          · subst e
            refine ⟨pk_us, pk_uLs, fun x hx => setc_in hx⟩
          · obtain ⟨j1, j2, j3⟩ := hj j (by omega)
            refine ⟨(pk_un e).trans j1, (pk_uLn e).trans j2, fun x hx => ?_⟩
            rw [setc_out (by omega)]
            exact j3 x hx
    exact l51 (jz0 D) 0 th me gm su (by omega) (fun j hj => absurd hj (Nat.not_lt_zero _))
  by_cases c : D ≤ 40
  · have hz0 : jz0 D = D := if_pos c
    have hg0 : jg0 D C M = fun k => k := if_pos c
    simp (disch := omega) only [li_0, li_1, li_2, li_3, li_4, li_8, li_16, li_20, li_24, li_40, li_63, li_64, li_255, li_256, li_576, nI_add, pk_mul, nz_neg, nz_sub, nz_cl, nz_le, nz_lt, nz_eq, nz_in, nz_div, true_and, forall_eq]
    refine ⟨fun _ => ?_, fun q => absurd c q⟩
    have l28 : ∀ (d k : Nat) (gr : Nat → Int32), k + d = D → (∀ j, j < k → gr j = nI j) → K28 (nI k) (nI D) a5 gr row ch sp bm th gm me su := by
      intro d
      induction d with
      | zero =>
        intro k gr hk hgr
        have : k = D := by omega
        subst this
        apply h28
        unfold vcMd_join_28 vcMd_join_49
        refine ⟨fun _ => ?_, fun q => absurd (nI_le (Nat.le_refl _) (by omega)) q⟩
        have := after a5 gr row ch sp bm (fun j hj => by rw [hg0]; exact hgr j hj)
        rw [hz0] at this
        exact this
      | succ d ih =>
        intro k gr hk hgr
        apply h28
        unfold vcMd_join_28
        refine ⟨fun q => absurd q (nI_ge (by omega) (by omega)), fun _ => ⟨vp_in_nI (by omega) (by omega), ?_⟩⟩
        simp (disch := omega) only [li_0, li_1, li_2, li_3, li_4, li_8, li_16, li_20, li_24, li_40, li_63, li_64, li_255, li_256, li_576, nI_add, pk_mul, nz_neg, nz_sub, nz_cl, nz_le, nz_lt, nz_eq, nz_in, nz_div, true_and, forall_eq]
        refine ih (k + 1) _ (by omega) (fun j hj => ?_)
        simp only [upd]
        by_cases e : j = k
        · rw [if_pos e, e]
        · rw [if_neg e]; exact hgr j (by omega)
    exact l28 D 0 gr (by omega) (fun j hj => absurd hj (Nat.not_lt_zero _))
  · have hz0 : jz0 D = 40 := if_neg c
    have hg0 : jg0 D C M = boxG D C M 39 := if_neg c
    simp (disch := omega) only [li_0, li_1, li_2, li_3, li_4, li_8, li_16, li_20, li_24, li_40, li_63, li_64, li_255, li_256, li_576, nI_add, pk_mul, nz_neg, nz_sub, nz_cl, nz_le, nz_lt, nz_eq, nz_in, nz_div, true_and, forall_eq]
    refine ⟨fun q => absurd q c, fun _ => ?_⟩
    refine sp_Md_makeBoxes (C := C) (M := M) (by omega) (by omega) (by omega) (by omega) (by omega) hD (by omega) (by omega) (by omega) (by omega) (by omega) (by omega) (by omega) (by omega) hC0 hC hM hMt (fun rs gr' row' ch' sp' bm' hgr => ?_)
    unfold vcMd_join_49
    have := after rs gr' row' ch' sp' bm' (fun j hj => by rw [hg0]; exact hgr j hj)
    rw [hz0] at this
    exact this
/-- the model's given colours -/
def moOK (g : Nat → Bool) (Q : Nat → Nat) (ig gi : Nat → Int32) : Prop := ∀ k, k < 64 → ig k = (if g k = true then 1 else 0) ∧ (g k = true → Q k < 4294967296 ∧ chA gi (4 * k) (Q k))
theorem sp_Md_begin {W H N D way w : Nat} {a1 a4 a5 a6 a7 a8 a9 : Int32} {sa ig gi cs ms gr row ch sp bm th me pa : Nat → Int32} {gm su : Nat → Int64} {S C M Q : Nat → Nat} {g : Nat → Bool}
    {post : Int32 → Int32 → Int32 → Int32 → (Nat → Int32) → (Nat → Int32) → (Nat → Int32) → (Nat → Int32) → (Nat → Int32) → (Nat → Int32) → (Nat → Int32) → (Nat → Int32) → (Nat → Int64) → (Nat → Int32) → (Nat → Int64) → (Nat → Int32) → Prop}
    (hN : W * H = N) (hN0 : 0 < N) (hN1 : N ≤ 576) (hway : way ≤ 2) (hw0 : 0 < w) (hw : w ≤ 64) (hS : chs sa N S) (hsh : shOK N S D C M) (ho : moOK g Q ig gi)
    (h : ∀ d' g' rs' cs' ms' gr' row' ch' sp' bm' th' gm' me' su' z P pa', z ≤ 64 → bgn way w D C M g Q z P → chs pa' z P → post d' g' rs' (nI z) cs' ms' gr' row' ch' sp' bm' th' gm' me' su' pa') :
    wpMd_begin 2304 64 256 2304 576 576 576 64 64 64 576 576 2304 4 256 a1 (nI W) (nI H) a4 a5 a6 a7 a8 a9 sa ig gi cs ms gr row ch sp bm th gm me su pa (nI way) (nI w) post := by
  have hD := shOK_D hsh
  have hD0 := shOK_D0 hsh hN0
  have hCB := shOK_C hsh (fun p hp => (hS p hp).1)
  have hMt : tot D M ≤ 576 := by rw [shOK_N hsh]; exact hN1
  have hM0 : ∀ k, k < D → 0 < M k := fun k hk => (shOK_M hsh hk).1
  unfold wpMd_begin
  intro K12 K94 K137 K173 h12 h94 h137 h173
  -- the groups that are there, in their order
  have cop : ∀ (n z : Nat) (e P : Nat → Nat) (d' rs' : Int32) (cs' ms' gr' row' ch' sp' bm' th' : Nat → Int32) (gm' : Nat → Int64) (me' : Nat → Int32) (su' : Nat → Int64), n ≤ 64 → z ≤ 64 → enm z e n th' → (∀ j, j < z → P j < 4294967296 ∧ chA me' (4 * e j) (P j)) → bgn way w D C M g Q z P → ∀ (d i r : Nat) (pa : Nat → Int32), i + d = n → rnk z e i r → chs pa r P → K173 (nI i) d' (nI n) rs' (nI r) cs' ms' gr' row' ch' sp' bm' th' gm' me' su' pa := by
    intro n z e P d' rs' cs' ms' gr' row' ch' sp' bm' th' gm' me' su' hn hz hen hP hb d
    induction d with
    | zero =>
      intro i r pa hi hr hpa
      have : i = n := by omega
      subst this
      have := rnk_end hen hr
      subst this
      apply h173
      unfold vcMd_begin_173
      exact ⟨fun _ => h _ _ _ _ _ _ _ _ _ _ _ _ _ _ _ P pa hz hb hpa, fun q => absurd (nI_le (Nat.le_refl _) (by omega)) q⟩
    | succ d ih =>
      intro i r pa hi hr hpa
      apply h173
      unfold vcMd_begin_173 vcMd_begin_220
      refine ⟨fun q => absurd q (nI_ge (by omega) (by omega)), fun _ => ⟨vp_in_nI (by omega) (by omega), fun q => ?_, fun q => ?_⟩⟩
      · rw [nz_cl (by omega)] at q
        rw [nI_1]
        exact ih (i + 1) r pa (by omega) (rnk_n hen hr (by omega) q) hpa
      · rw [nz_cl (by omega)] at q
        obtain ⟨r1, r2, r3⟩ := rnk_y hen hr (by omega) q
        obtain ⟨p1, p2⟩ := hP r r1
        rw [r2] at p2
        simp (disch := omega) only [li_0, li_1, li_2, li_3, li_4, li_8, li_16, li_20, li_24, li_40, li_63, li_64, li_255, li_256, li_576, nI_add, pk_mul, nz_neg, nz_sub, nz_cl, nz_le, nz_lt, nz_eq, nz_in, nz_div, true_and, forall_eq]
        refine sp_Md_copy (by omega) (by omega) (by omega) (by omega) p2 ?_
        refine ih (i + 1) (r + 1) _ (by omega) r3 (chs_cg (chs_push hpa p1) (fun j hj => ?_))
        by_cases c : j = r
        · rw [if_pos c, c]
        · rw [if_neg c]
  refine ⟨fun q2 => ?_, fun q2 => ?_⟩
  · have hw2 : way < 2 := by
      rcases Nat.lt_or_ge way 2 with c | c
      · exact c
      · exact absurd (by rw [show way = 2 by omega]; rfl) q2
    refine sp_Md_findDifferent (by omega) (by omega) (by omega) hN hN1 (by omega) (by omega) (by omega) hS (fun D' C' M' cs' ms' hsh' hc' hm' => ?_)
    obtain ⟨e1, e2⟩ := shOK_one hsh hsh'
    subst e1
    have hc : chs cs' D C := chs_cg hc' (fun j hj => (e2 j hj).1)
    have hm : ∀ k, k < D → ms' k = nI (M k) := fun k hk => by rw [(e2 k hk).2]; exact hm' k hk
    clear hc' hm' hsh'
    simp (disch := omega) only [li_0, li_1, li_2, li_3, li_4, li_8, li_16, li_20, li_24, li_40, li_63, li_64, li_255, li_256, li_576, nI_add, pk_mul, nz_neg, nz_sub, nz_cl, nz_le, nz_lt, nz_eq, nz_in, nz_div, true_and, forall_eq]
    refine ⟨fun hwD => ⟨fun hw1 => ?_, fun hw1 => ?_⟩, fun hwD => ?_⟩
    · have hz := jz0_le hD0
      have hf := jg0_fil (by omega) hsh.1 hCB hMt
      refine sp_Md_join (C := C) (M := M) (by omega) hw0 hw hwD hsh.1 hc hm hM0 hMt (fun rs gr' row' ch' sp' bm' th' gm' me' su' e hmj => ?_)
      unfold vcMd_begin_171
      obtain ⟨m1, m2, m3⟩ := hmj
      refine cop (jz0 D) (jz0 D - (jz0 D - w)) e (fun j => mcol D C M (pb (jG D C M (jz0 D) (jg0 D C M) (jz0 D - w)) j)) _ _ _ _ _ _ _ _ _ _ _ _ _ (by omega) (by omega) m1 (fun j hj => ⟨mcol_lt, (m3 j hj).2⟩) (Or.inr (Or.inr (Or.inr ⟨by omega, hwD, rfl, fun _ _ => rfl⟩))) (jz0 D) 0 0 _ (by omega) rnk_0 (fun j hj => absurd hj (Nat.not_lt_zero _))
    · refine sp_Md_makeBoxes (C := C) (M := M) (by omega) (by omega) (by omega) (by omega) (by omega) (by omega) (by omega) (by omega) (by omega) (by omega) (by omega) hw0 hw hwD hsh.1 hc hm hMt (fun rs gr' row' ch' sp' bm' hgr => ?_)
      have hfb : fil D (boxG D C M (w - 1)) w := by
        have e : w - 1 + 1 = w := by omega
        refine ⟨fun k hk => ?_, fun j hj => ?_⟩
        · have := boxG_lt (D := D) (C := C) (M := M) (w - 1) k hk
          omega
        · exact boxG_ne (by omega) hsh.1 hCB hMt (w - 1) (by omega) j (by omega)
      have l137 : ∀ (d i : Nat) (th me : Nat → Int32) (gm su : Nat → Int64), i + d = w → (∀ j, j < i → th j = 1 ∧ chA me (4 * j) (mcol D C M (pb (boxG D C M (w - 1)) j))) → K137 (nI i) (nI D) (nI w) rs (nI 0) cs' ms' gr' row' ch' sp' bm' th gm me su pa := by
        intro d
        induction d with
        | zero =>
          intro i th me gm su hi hj
          have : i = w := by omega
          subst this
          apply h137
          unfold vcMd_begin_137 vcMd_begin_171
          refine ⟨fun _ => ?_, fun q => absurd (nI_le (Nat.le_refl _) (by omega)) q⟩
          refine cop i i (fun k => k) (fun j => mcol D C M (pb (boxG D C M (i - 1)) j)) _ _ _ _ _ _ _ _ _ _ _ _ _ (by omega) (by omega) ⟨fun i j hij hj => hij, fun j hj => hj, fun g hg => ⟨fun _ => ⟨g, hg, rfl⟩, fun _ => ?_⟩⟩ (fun j hjj => ⟨mcol_lt, (hj j hjj).2⟩) (Or.inr (Or.inr (Or.inl ⟨by omega, hwD, rfl, fun _ _ => rfl⟩))) i 0 0 _ (by omega) rnk_0 (fun j hj => absurd hj (Nat.not_lt_zero _))
          rw [(hj g hg).1]
          decide
        | succ d ih =>
          intro i th me gm su hi hj
          apply h137
          unfold vcMd_begin_137
          refine ⟨fun q => absurd q (nI_ge (by omega) (by omega)), fun _ => ⟨vp_in_nI (by omega) (by omega), ?_⟩⟩
          refine sp_Md_findMean (D := D) (C := C) (M := M) (G := boxG D C M (w - 1)) (by omega) (by omega) (by omega) (by omega) (by omega) (by omega) (by omega) (by omega) (by omega) (by omega) (by omega) (by omega) hc hm hMt (fun k hk => ⟨?_, hgr k hk⟩) (fil_W hfb hM0 hMt (by omega)).1 (fun su' => ?_)
          · have := hfb.1 k hk; omega
          · rw [nz_cl (by omega), vnb1, nI_1]
            refine ih (i + 1) _ _ _ _ (by omega) (fun j hjg => ?_)
            by_cases e : j = i
            · subst e
              exact ⟨pk_us, fun x hx => setc_in hx⟩
            · obtain ⟨j1, j3⟩ := hj j (by omega)
              refine ⟨(pk_un e).trans j1, fun x hx => ?_⟩
              rw [setc_out (by omega)]
              exact j3 x hx
      exact l137 w 0 _ _ _ _ (by omega) (fun j hj => absurd hj (Nat.not_lt_zero _))
    · have l94 : ∀ (d i : Nat) (pa : Nat → Int32), i + d = D → chs pa i C → K94 (nI i) (nI D) a5 a6 (nI D) cs' ms' gr row ch sp bm th gm me su pa := by
        intro d
        induction d with
        | zero =>
          intro i pa hi hpa
          have : i = D := by omega
          subst this
          apply h94
          unfold vcMd_begin_94
          exact ⟨fun _ => h _ _ _ _ _ _ _ _ _ _ _ _ _ _ _ _ _ (by omega) (Or.inr (Or.inl ⟨hw2, by omega, rfl, fun _ _ => rfl⟩)) hpa, fun q => absurd (nI_le (Nat.le_refl _) (by omega)) q⟩
        | succ d ih =>
          intro i pa hi hpa
          apply h94
          unfold vcMd_begin_94
          refine ⟨fun q => absurd q (nI_ge (by omega) (by omega)), fun _ => ?_⟩
          simp (disch := omega) only [li_0, li_1, li_2, li_3, li_4, li_8, li_16, li_20, li_24, li_40, li_63, li_64, li_255, li_256, li_576, nI_add, pk_mul, nz_neg, nz_sub, nz_cl, nz_le, nz_lt, nz_eq, nz_in, nz_div, true_and, forall_eq]
          refine sp_Md_copy (by omega) (by omega) (by omega) (by omega) (chs_A hc (by omega)) (ih (i + 1) _ (by omega) (chs_cg (chs_push hpa (hCB i (by omega))) (fun j hj => ?_)))
          by_cases e : j = i
          · rw [if_pos e, e]
          · rw [if_neg e]
      exact l94 D 0 pa (by omega) (fun j hj => absurd hj (Nat.not_lt_zero _))
  · have hw2 : way = 2 := by
      rw [li_2] at q2
      exact (nI_eq (by omega) (by omega)).mp q2
    have l12 : ∀ (d k : Nat) (pa : Nat → Int32), k + d = 64 → chs pa (gsz g w k) (gpl g Q w k) → K12 (nI k) a4 a5 a6 (nI (gsz g w k)) cs ms gr row ch sp bm th gm me su pa := by
      intro d
      induction d with
      | zero =>
        intro k pa hk hpa
        have : k = 64 := by omega
        subst this
        have := gsz_le g w 64
        apply h12
        unfold vcMd_begin_12 vcMd_begin_71
        exact ⟨fun _ => h _ _ _ _ _ _ _ _ _ _ _ _ _ _ _ _ _ (by omega) (Or.inl ⟨hw2, rfl, fun _ _ => rfl⟩) hpa, fun q => absurd (by decide) q⟩
      | succ d ih =>
        intro k pa hk hpa
        have hle := gsz_le g w k
        obtain ⟨o1, o2⟩ := ho k (by omega)
        have hn := ih (k + 1) pa (by omega)
        apply h12
        unfold vcMd_begin_12 vcMd_begin_71 vcMd_begin_65
        refine ⟨fun q => absurd q (by rw [li_64]; exact nI_ge (by omega) (by omega)), fun _ => ⟨fun q => ?_, fun q => ⟨vp_in_nI (by omega) (by omega), fun q2 => ?_, fun q2 => ?_⟩⟩⟩
        · have e : gsz g w k = w := by
            have := (nI_leI (by omega) (by omega)).mp q
            omega
          have e2 := gsz_full (64 - k) k e
          rw [show k + (64 - k) = 64 by omega] at e2
          refine h _ _ _ _ _ _ _ _ _ _ _ _ _ _ _ (gpl g Q w k) _ (by omega) (Or.inl ⟨hw2, by rw [e, e2], fun j hj => ?_⟩) hpa
          have e3 := gpl_full (Q := Q) (64 - k) k e j
          rw [show k + (64 - k) = 64 by omega] at e3
          exact e3.symm
        · rw [nz_cl (by omega), o1] at q2
          have hg : ¬ g k = true := fun z => by rw [if_pos z] at q2; exact absurd q2 (by decide)
          have e1 : gsz g w (k + 1) = gsz g w k := by
            show (if g k = true ∧ gsz g w k < w then gsz g w k + 1 else gsz g w k) = _
            rw [if_neg (fun z => hg z.1)]
          rw [e1] at hn
          rw [nI_1]
          refine hn (fun j hj => ?_)
          have e2 : gpl g Q w (k + 1) j = gpl g Q w k j := by
            show (if (g k = true ∧ gsz g w k < w) ∧ j = gsz g w k then Q k else gpl g Q w k j) = _
            rw [if_neg (fun z => hg z.1.1)]
          rw [e2]
          exact hpa j hj
        · rw [nz_cl (by omega), o1] at q2
          have hg : g k = true := Classical.byContradiction (fun z => by rw [if_neg z] at q2; exact q2 rfl)
          have hlt : gsz g w k < w := by
            rcases Nat.lt_or_ge (gsz g w k) w with z | z
            · exact z
            · exact absurd (nI_le z (by omega)) q
          obtain ⟨o3, o4⟩ := o2 hg
          simp (disch := omega) only [li_0, li_1, li_2, li_3, li_4, li_8, li_16, li_20, li_24, li_40, li_63, li_64, li_255, li_256, li_576, nI_add, pk_mul, nz_neg, nz_sub, nz_cl, nz_le, nz_lt, nz_eq, nz_in, nz_div, true_and, forall_eq]
          refine sp_Md_copy (by omega) (by omega) (by omega) (by omega) o4 ?_
          have e1 : gsz g w (k + 1) = gsz g w k + 1 := by
            show (if g k = true ∧ gsz g w k < w then gsz g w k + 1 else gsz g w k) = _
            rw [if_pos ⟨hg, hlt⟩]
          have := ih (k + 1) (setc pa (gsz g w k) (Q k)) (by omega)
          rw [e1] at this
          refine this (chs_cg (chs_push hpa o3) (fun j hj => ?_))
          show (if (g k = true ∧ gsz g w k < w) ∧ j = gsz g w k then Q k else gpl g Q w k j) = _
          by_cases c : j = gsz g w k
          · rw [if_pos ⟨⟨hg, hlt⟩, c⟩, if_pos c]
          · rw [if_neg (fun z => c z.2), if_neg c]
    exact l12 64 0 pa (by omega) (fun j hj => absurd hj (Nat.not_lt_zero _))
