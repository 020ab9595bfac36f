/-! the first palette -/
def gsz (g : Nat → Bool) (w : Nat) : Nat → Nat
  | 0 => 0
  | k + 1 => if g k = true ∧ gsz g w k < w then gsz g w k + 1 else gsz g w k
def gpl (g : Nat → Bool) (Q : Nat → Nat) (w : Nat) : Nat → Nat → Nat
  | 0, _ => 0
  | k + 1, j => if (g k = true ∧ gsz g w k < w) ∧ j = gsz g w k then Q k else gpl g Q w k j
theorem gsz_le (g : Nat → Bool) (w k : Nat) : gsz g w k ≤ k ∧ gsz g w k ≤ w := by
  induction k with
  | zero => exact ⟨Nat.le_refl _, Nat.zero_le _⟩
  | succ k ih =>
    unfold gsz
    split <;> omega
theorem gsz_full {g : Nat → Bool} {w : Nat} : ∀ (d k : Nat), gsz g w k = w → gsz g w (k + d) = w := by
  intro d
  induction d with
  | zero => intro k h; exact h
  | succ d ih =>
    intro k h
    rw [← Nat.add_assoc]
    show (if g (k + d) = true ∧ gsz g w (k + d) < w then gsz g w (k + d) + 1 else gsz g w (k + d)) = w
    rw [ih k h, if_neg (by omega)]
theorem gpl_full {g : Nat → Bool} {Q : Nat → Nat} {w : Nat} : ∀ (d k : Nat), gsz g w k = w → ∀ j, gpl g Q w (k + d) j = gpl g Q w k j := by
  intro d
  induction d with
  | zero => intro k h j; rfl
  | succ d ih =>
    intro k h j
    rw [← Nat.add_assoc]
    show (if (g (k + d) = true ∧ gsz g w (k + d) < w) ∧ j = gsz g w (k + d) then Q (k + d) else gpl g Q w (k + d) j) = _
    rw [gsz_full d k h, if_neg (by omega)]
    exact ih k h j
theorem gsz_pos {g : Nat → Bool} {w k n : Nat} (hw : 0 < w) (hk : k < n) (hg : g k = true) : 0 < gsz g w n := by
  have a : ∀ m, m ≤ n → k < m → 0 < gsz g w m := by
    intro m
    induction m with
    | zero => intro _ h; omega
    | succ m ih =>
      intro hm hk
      unfold gsz
      by_cases e : k = m
      · subst e
        split
        · omega
        · next h => rcases Nat.lt_or_ge (gsz g w k) w with q | q
                    · exact absurd ⟨hg, q⟩ h
                    · omega
      · have := ih (by omega) (by omega)
        split <;> omega
  exact a n (Nat.le_refl _) hk
/-- the given colours: g k says whether, Q k which -/
def ofOK (g : Nat → Bool) (Q : Nat → Nat) (ti th : Nat → Int32) : Prop := ∀ k, k < 64 → th k = (if g k = true then 1 else 0) ∧ (g k = true → Q k < 4294967296 ∧ ti k = nI (Q k))
theorem sp_Of_addTo {w : Nat} {sz : Int32} {ti th lv : Nat → Int32} {g : Nat → Bool} {Q : Nat → Nat} {post : Int32 → (Nat → Int32) → Prop} (hw : w ≤ 64) (ho : ofOK g Q ti th)
    (h : ∀ lv', chs lv' (gsz g w 64) (gpl g Q w 64) → post (nI (gsz g w 64)) lv') : wpOf_addTo 64 64 256 sz ti th (nI 0) lv (nI w) post := by
  unfold wpOf_addTo
  intro K hK
  have loop : ∀ (d k : Nat) (lv : Nat → Int32), k + d = 64 → chs lv (gsz g w k) (gpl g Q w k) → K (nI k) (nI (gsz g w k)) lv := by
    intro d
    induction d with
    | zero =>
      intro k lv hk hlv
      have : k = 64 := by omega
      subst this
      apply hK
      unfold vcOf_addTo_2 vcOf_addTo_41
      exact ⟨fun _ => h lv hlv, fun q => absurd (by decide) q⟩
    | succ d ih =>
      intro k lv hk hlv
      have hle := gsz_le g w k
      obtain ⟨o1, o2⟩ := ho k (by omega)
      have hn := ih (k + 1) (lv) (by omega)
      apply hK
      unfold vcOf_addTo_2 vcOf_addTo_41 vcOf_addTo_35
      refine ⟨fun q => absurd q (by rw [li_64]; exact nI_ge (by omega) (by omega)), fun _ => ⟨fun q => ?_, fun q => ⟨vp_in_nI (by omega) (by omega), fun q2 => ?_, fun q2 => ⟨vp_in_nI (by omega) (by omega), ?_⟩⟩⟩⟩
      · have e : gsz g w k = w := by
          have := (nI_leI (by omega) (by omega)).mp q
          omega
        have e2 := gsz_full (64 - k) k e
        rw [show k + (64 - k) = 64 by omega] at e2
        have := h lv
        rw [e2] at this
        rw [e]
        refine this (fun j hj => ?_)
        have e3 := gpl_full (Q := Q) (64 - k) k e j
        rw [show k + (64 - k) = 64 by omega] at e3
        rw [e3]
        exact hlv j (by omega)
      · rw [nz_cl (by omega), o1] at q2
        have hg : ¬ g k = true := fun z => by rw [if_pos z] at q2; exact absurd q2 (by decide)
        have e1 : gsz g w (k + 1) = gsz g w k := by
          show (if g k = true ∧ gsz g w k < w then gsz g w k + 1 else gsz g w k) = _
          rw [if_neg (fun z => hg z.1)]
        rw [e1] at hn
        rw [nI_1]
        refine hn (fun j hj => ?_)
        have e2 : gpl g Q w (k + 1) j = gpl g Q w k j := by
          show (if (g k = true ∧ gsz g w k < w) ∧ j = gsz g w k then Q k else gpl g Q w k j) = _
          rw [if_neg (fun z => hg z.1.1)]
        rw [e2]
        exact hlv j hj
      · rw [nz_cl (by omega), o1] at q2
        have hg : g k = true := Classical.byContradiction (fun z => by rw [if_neg z] at q2; exact q2 rfl)
        have hlt : gsz g w k < w := by
          rcases Nat.lt_or_ge (gsz g w k) w with z | z
          · exact z
          · exact absurd (nI_le z (by omega)) q
        obtain ⟨o3, o4⟩ := o2 hg
        rw [nz_cl (by omega), o4]
        refine sp_add (by omega) (by omega) (by omega) o3 ?_
        have e1 : gsz g w (k + 1) = gsz g w k + 1 := by
          show (if g k = true ∧ gsz g w k < w then gsz g w k + 1 else gsz g w k) = _
          rw [if_pos ⟨hg, hlt⟩]
        rw [nI_1]
        have := ih (k + 1) (setc lv (gsz g w k) (Q k)) (by omega)
        rw [e1] at this
        refine this (chs_cg (chs_push hlv o3) (fun j hj => ?_))
        show (if (g k = true ∧ gsz g w k < w) ∧ j = gsz g w k then Q k else gpl g Q w k j) = _
        by_cases c : j = gsz g w k
        · rw [if_pos ⟨⟨hg, hlt⟩, c⟩, if_pos c]
        · rw [if_neg (fun z => c z.2), if_neg c]
  exact loop 64 0 lv (by omega) (fun j hj => absurd hj (Nat.not_lt_zero _))
def jz0 (D : Nat) : Nat := if D ≤ 40 then D else 40
noncomputable def jg0 (D : Nat) (C M : Nat → Nat) : Nat → Nat := if D ≤ 40 then (fun k => k) else boxG D C M 39
def bgn (way w D : Nat) (C M : Nat → Nat) (g : Nat → Bool) (Q : Nat → Nat) (z : Nat) (P : Nat → Nat) : Prop :=
  (way = 2 ∧ z = gsz g w 64 ∧ ∀ j, j < z → P j = gpl g Q w 64 j) ∨ (way < 2 ∧ D ≤ w ∧ z = D ∧ ∀ j, j < z → P j = C j) ∨
  (way = 0 ∧ w < D ∧ z = w ∧ ∀ j, j < z → P j = mcol D C M (pb (boxG D C M (w - 1)) j)) ∨
  (way = 1 ∧ w < D ∧ z = jz0 D - (jz0 D - w) ∧ ∀ j, j < z → P j = mcol D C M (pb (jG D C M (jz0 D) (jg0 D C M) (jz0 D - w)) j))
theorem bgn_one {way w D z z' : Nat} {C M Q P P' : Nat → Nat} {g : Nat → Bool} (h : bgn way w D C M g Q z P) (h' : bgn way w D C M g Q z' P') : z = z' ∧ ∀ j, j < z → P j = P' j := by
  rcases h with ⟨a1, a2, a3⟩ | ⟨a1, a0, a2, a3⟩ | ⟨a1, a0, a2, a3⟩ | ⟨a1, a0, a2, a3⟩ <;>
  rcases h' with ⟨b1, b2, b3⟩ | ⟨b1, b0, b2, b3⟩ | ⟨b1, b0, b2, b3⟩ | ⟨b1, b0, b2, b3⟩ <;>
  first
  | omega
  | exact ⟨by rw [a2, b2], fun j hj => by rw [a3 j hj, b3 j (by rw [b2, ← a2]; exact hj)]⟩
theorem jg0_fil {D : Nat} {C M : Nat → Nat} (hD : D ≤ 576) (hC : ∀ i j, i < j → j < D → C i < C j) (hB : ∀ k, k < D → C k < 4294967296) (hM : tot D M ≤ 576) : fil D (jg0 D C M) (jz0 D) := by
  unfold jg0 jz0
  by_cases c : D ≤ 40
  · rw [if_pos c, if_pos c]
    exact ⟨fun k hk => hk, fun j hj => ⟨j, hj, rfl⟩⟩
  · rw [if_neg c, if_neg c]
    exact ⟨boxG_lt 39, boxG_ne hD hC hB hM 39 (by omega)⟩
theorem jz0_le {D : Nat} (h : 0 < D) : jz0 D ≤ 40 ∧ 0 < jz0 D ∧ jz0 D ≤ D := by
  unfold jz0
  split <;> omega
theorem sp_CL_poolGroups {N D : Nat} {w' h' st : Int32} {ti ma row sta en we sp wi to mb : Nat → Int32} {ke : Nat → Int64} {bs ps : Int32} {C M : Nat → Nat}
    {post : (Nat → Int64) → Int32 → (Nat → Int32) → (Nat → Int32) → (Nat → Int32) → (Nat → Int32) → (Nat → Int32) → (Nat → Int32) → Int32 → (Nat → Int32) → (Nat → Int32) → Prop}
    (hN : N ≤ 576) (hDN : D ≤ N) (hD0 : 0 < D) (hC : ∀ i j, i < j → j < D → C i < C j) (ht : ∀ k, k < D → C k < 4294967296 ∧ ti k = nI (C k)) (hma : ∀ k, k < D → ma k = nI (M k)) (hMt : tot D M ≤ 576)
    (h : ∀ ke' bs' row' sta' en' we' sp' wi' to' mb', joOK D C M (jg0 D C M) (jz0 D) to' mb' → post ke' bs' row' sta' en' we' sp' wi' (nI (jz0 D)) to' mb') :
    wpCL_poolGroups N N N N 64 64 64 64 64 256 64 w' h' (nI D) st ti ma ke bs row sta en we sp wi ps to mb post := by
  unfold wpCL_poolGroups
  intro K hK
  by_cases c : D ≤ 40
  · have hz : jz0 D = D := if_pos c
    have hg : jg0 D C M = fun k => k := if_pos c
    rw [hz, hg] at h
    simp (disch := omega) only [li_0, li_1, li_2, li_3, li_4, li_8, li_16, li_20, li_24, li_40, li_63, li_64, li_255, li_256, li_576, nI_add, pk_mul, nz_neg, nz_sub, nz_cl, nz_le, nz_lt, nz_eq, nz_in, nz_div, true_and, forall_eq]
    refine ⟨fun _ => ?_, fun q => absurd c q⟩
    refine sp_Po_start (by omega) (fun to' mb' hp => ?_)
    have loop : ∀ (d k : Nat) (to mb : Nat → Int32), k + d = D → plS D (fun j c => if j < k then M j * lev (C j) c else 0) (fun j => if j < k then M j else 0) to mb → K (nI k) ke bs row sta en we sp wi (nI D) to mb := by
      intro d
      induction d with
      | zero =>
        intro k to mb hk hp
        have : k = D := by omega
        subst this
        apply hK
        unfold vcCL_poolGroups_57
        refine ⟨fun _ => h _ _ _ _ _ _ _ _ _ _ (plS_cg hp (fun j hj => ?_) (fun j hj c hc => ?_)), fun q => absurd (nI_le (Nat.le_refl _) (by omega)) q⟩
        · rw [if_pos hj]
          exact (tot_one hj (fun i hi hne => if_neg (by rw [pb_t]; exact hne))).trans (if_pos (pb_t.mpr rfl))
        · rw [if_pos hj]
          exact (tot_one hj (fun i hi hne => if_neg (by rw [pb_t]; exact hne))).trans (if_pos (pb_t.mpr rfl))
      | succ d ih =>
        intro k to mb hk hp
        apply hK
        unfold vcCL_poolGroups_57
        refine ⟨fun q => absurd q (nI_ge (by omega) (by omega)), fun _ => ?_⟩
        simp (disch := omega) only [li_0, li_1, li_2, li_3, li_4, li_8, li_16, li_20, li_24, li_40, li_63, li_64, li_255, li_256, li_576, nI_add, pk_mul, nz_neg, nz_sub, nz_cl, nz_le, nz_lt, nz_eq, nz_in, nz_div, true_and, forall_eq]
        rw [(ht k (by omega)).2, hma k (by omega)]
        refine sp_Po_pour (by omega) (by omega) (ht k (by omega)).1 hp (fun to' mb' hp' => ?_)
        refine ih (k + 1) to' mb' (by omega) (plS_cg hp' (fun j hj => ?_) (fun j hj c hc => ?_))
        · try dsimp only
          by_cases e : j = k
          · subst e
            rw [if_pos (by omega), if_pos rfl, if_neg (by omega), Nat.zero_add]
          · rw [if_neg e]
            by_cases e2 : j < k
            · rw [if_pos e2, if_pos (by omega)]
            · rw [if_neg e2, if_neg (by omega)]
        · try dsimp only
          by_cases e : j = k
          · subst e
            rw [if_pos (by omega), if_pos rfl, if_neg (by omega), Nat.zero_add]
          · rw [if_neg e]
            by_cases e2 : j < k
            · rw [if_pos e2, if_pos (by omega)]
            · rw [if_neg e2, if_neg (by omega)]
    exact loop D 0 to' mb' (by omega) (fun j hj => hp j (by omega))
  · have hz : jz0 D = 40 := if_neg c
    have hg : jg0 D C M = boxG D C M 39 := if_neg c
    rw [hz, hg] at h
    simp (disch := omega) only [li_0, li_1, li_2, li_3, li_4, li_8, li_16, li_20, li_24, li_40, li_63, li_64, li_255, li_256, li_576, nI_add, pk_mul, nz_neg, nz_sub, nz_cl, nz_le, nz_lt, nz_eq, nz_in, nz_div, true_and, forall_eq]
    refine ⟨fun q => absurd q c, fun _ => ?_⟩
    refine sp_Bx_cut (C := C) (M := M) hN hDN (by omega) (by omega) (by omega) hC ht hma hMt (fun row' st' en' we' sp' wi' ke' hcb => ?_)
    exact sp_Bx_pourInto hN hDN (by omega) hcb ht hma (fun to' ma' hp => h _ _ _ _ _ _ _ _ _ _ hp)
theorem sp_CL_fillPalette {N D way w : Nat} {w' h' st os : Int32} {ti ma row sta en we sp wi to mb me ot oth lv : Nat → Int32} {ke : Nat → Int64} {bs ps : Int32} {C M Q : Nat → Nat} {g : Nat → Bool}
    {post : (Nat → Int64) → Int32 → (Nat → Int32) → (Nat → Int32) → (Nat → Int32) → (Nat → Int32) → (Nat → Int32) → (Nat → Int32) → Int32 → (Nat → Int32) → (Nat → Int32) → (Nat → Int32) → Int32 → (Nat → Int32) → Prop}
    (hN : N ≤ 576) (hDN : D ≤ N) (hD0 : 0 < D) (hway : way ≤ 2) (hw0 : 0 < w) (hw : w ≤ 64) (hC : ∀ i j, i < j → j < D → C i < C j) (ht : ∀ k, k < D → C k < 4294967296 ∧ ti k = nI (C k)) (hma : ∀ k, k < D → ma k = nI (M k)) (hM0 : ∀ k, k < D → 0 < M k) (hMt : tot D M ≤ 576) (ho : ofOK g Q ot oth)
    (h : ∀ ke' bs' row' sta' en' we' sp' wi' ps' to' mb' me' z P lv', z ≤ 64 → bgn way w D C M g Q z P → chs lv' z P → post ke' bs' row' sta' en' we' sp' wi' ps' to' mb' me' (nI z) lv') :
    wpCL_fillPalette N N N N 64 64 64 64 64 256 64 64 64 64 256 w' h' (nI D) st ti ma ke bs row sta en we sp wi ps to mb me os ot oth (nI 0) lv (nI way) (nI w) post := by
  unfold wpCL_fillPalette
  intro K hK
  simp (disch := omega) only [li_0, li_1, li_2, li_3, li_4, li_8, li_16, li_20, li_24, li_40, li_63, li_64, li_255, li_256, li_576, nI_add, pk_mul, nz_neg, nz_sub, nz_cl, nz_le, nz_lt, nz_eq, nz_in, nz_div, true_and, forall_eq]
  refine ⟨fun hw2 => ⟨fun hwD => ⟨fun hw1 => ?_, fun hw1 => ?_⟩, fun hwD => ?_⟩, fun hw2 => ?_⟩
  · refine sp_Bx_cut (C := C) (M := M) hN hDN hw0 hw hwD hC ht hma hMt (fun row' st' en' we' sp' wi' ke' hcb => ?_)
    refine sp_Bx_pourInto hN hDN hw hcb ht hma (fun to' ma' hp => ?_)
    unfold vcCL_fillPalette_116 vcCL_fillPalette_127
    refine sp_Po_addMeansTo hw hp (fun j hj => Nat.le_trans (sm_all _ _ _) hMt) (fun j hj c hc => tsum_le) (fun lv' hlv => ?_)
    exact h _ _ _ _ _ _ _ _ _ _ _ _ _ _ _ hw (Or.inr (Or.inr (Or.inl ⟨by omega, hwD, rfl, fun _ _ => rfl⟩))) hlv
  · refine sp_CL_poolGroups (C := C) (M := M) hN hDN hD0 hC ht hma hMt (fun ke' bs' row' sta' en' we' sp' wi' to' mb' hj => ?_)
    have hz := jz0_le hD0
    refine sp_Po_joinDownTo hz.1 hz.2.1 hw0 hw (jg0_fil (by omega) hC (fun k hk => (ht k hk).1) hMt) hM0 hMt hj (fun to' ma' me' hj' => ?_)
    unfold vcCL_fillPalette_116 vcCL_fillPalette_127
    refine sp_Po_addMeansTo (by omega) hj' (fun j hj => Nat.le_trans (sm_all _ _ _) hMt) (fun j hj c hc => tsum_le) (fun lv' hlv => ?_)
    exact h _ _ _ _ _ _ _ _ _ _ _ _ _ _ _ (by omega) (Or.inr (Or.inr (Or.inr ⟨by omega, hwD, rfl, fun _ _ => rfl⟩))) hlv
  · have loop : ∀ (d k : Nat) (lv : Nat → Int32), k + d = D → chs lv k C → K (nI k) ke bs row sta en we sp wi ps to mb me (nI k) lv := by
      intro d
      induction d with
      | zero =>
        intro k lv hk hlv
        have : k = D := by omega
        subst this
        apply hK
        unfold vcCL_fillPalette_33 vcCL_fillPalette_127
        exact ⟨fun _ => h _ _ _ _ _ _ _ _ _ _ _ _ _ _ _ (by omega) (Or.inr (Or.inl ⟨by omega, by omega, rfl, fun _ _ => rfl⟩)) hlv, fun q => absurd (nI_le (Nat.le_refl _) (by omega)) q⟩
      | succ d ih =>
        intro k lv hk hlv
        apply hK
        unfold vcCL_fillPalette_33
        refine ⟨fun q => absurd q (nI_ge (by omega) (by omega)), fun _ => ?_⟩
        simp (disch := omega) only [li_0, li_1, li_2, li_3, li_4, li_8, li_16, li_20, li_24, li_40, li_63, li_64, li_255, li_256, li_576, nI_add, pk_mul, nz_neg, nz_sub, nz_cl, nz_le, nz_lt, nz_eq, nz_in, nz_div, true_and, forall_eq]
        rw [(ht k (by omega)).2]
        refine sp_add (by omega) (by omega) (by omega) (ht k (by omega)).1 (ih (k + 1) _ (by omega) (chs_cg (chs_push hlv (ht k (by omega)).1) (fun j hj => ?_)))
        by_cases e : j = k
        · rw [if_pos e, e]
        · rw [if_neg e]
    exact loop D 0 lv (by omega) (fun j hj => absurd hj (Nat.not_lt_zero _))
  · refine sp_Of_addTo hw ho (fun lv' hlv => ?_)
    unfold vcCL_fillPalette_127
    exact h _ _ _ _ _ _ _ _ _ _ _ _ _ _ _ (by have := gsz_le g w 64; omega) (Or.inl ⟨hw2, rfl, fun _ _ => rfl⟩) hlv
