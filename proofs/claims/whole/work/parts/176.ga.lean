/-! the class gathers its shades -/
theorem sp_enlist_new {n d s : Nat} {st : Int32} {ti ma : Nat → Int32} {post : Int32 → (Nat → Int32) → (Nat → Int32) → Prop} (hn : n < 2147483648) (hd : d < n) (h : d = 0 ∨ ti (d - 1) ≠ nI s)
    (hp : post (nI (d + 1)) (upd ti d (nI s)) (upd ma d (nI 1))) : wpSh_enlist n n (nI d) st ti ma (nI s) post := by
  have key : vcSh_enlist_22 n n st (nI s) post (nI d) ti ma := by
    unfold vcSh_enlist_22 vcSh_enlist_52
    simp (disch := omega) only [li_0, li_1, li_2, li_3, li_4, li_8, li_16, li_20, li_24, li_40, li_63, li_64, li_255, li_256, li_576, nI_add, pk_mul, nz_neg, nz_sub, nz_cl, nz_le, nz_lt, nz_eq, nz_in, nz_div, true_and, forall_eq, Nat.add_sub_cancel, pk_us]
    have e : upd (upd ma d (nI 0)) d (nI (0 + 1)) = upd ma d (nI 1) := by
      funext j
      simp only [upd]
      split <;> rfl
    rw [e]
    exact hp
  unfold wpSh_enlist
  by_cases c : d = 0
  · subst c
    exact ⟨fun _ => key, fun q => absurd rfl q⟩
  · refine ⟨fun q => ?_, fun _ => ?_⟩
    · simp (disch := omega) only [li_0, li_1, li_2, li_3, li_4, li_8, li_16, li_20, li_24, li_40, li_63, li_64, li_255, li_256, li_576, nI_add, pk_mul, nz_neg, nz_sub, nz_cl, nz_le, nz_lt, nz_eq, nz_in, nz_div, true_and, forall_eq] at q
      omega
    · simp (disch := omega) only [li_0, li_1, li_2, li_3, li_4, li_8, li_16, li_20, li_24, li_40, li_63, li_64, li_255, li_256, li_576, nI_add, pk_mul, nz_neg, nz_sub, nz_cl, nz_le, nz_lt, nz_eq, nz_in, nz_div, true_and, forall_eq]
      rcases h with h | h
      · omega
      · exact ⟨fun q => absurd q h, fun _ => key⟩
theorem sp_enlist_old {n d s m : Nat} {st : Int32} {ti ma : Nat → Int32} {post : Int32 → (Nat → Int32) → (Nat → Int32) → Prop} (hn : n < 2147483648) (hd : d ≤ n) (hd0 : 0 < d) (h : ti (d - 1) = nI s) (hm : ma (d - 1) = nI m)
    (hp : post (nI d) ti (upd ma (d - 1) (nI (m + 1)))) : wpSh_enlist n n (nI d) st ti ma (nI s) post := by
  unfold wpSh_enlist
  refine ⟨fun q => ?_, fun _ => ?_⟩
  · simp (disch := omega) only [li_0, li_1, li_2, li_3, li_4, li_8, li_16, li_20, li_24, li_40, li_63, li_64, li_255, li_256, li_576, nI_add, pk_mul, nz_neg, nz_sub, nz_cl, nz_le, nz_lt, nz_eq, nz_in, nz_div, true_and, forall_eq] at q
    omega
  · unfold vcSh_enlist_52
    simp (disch := omega) only [li_0, li_1, li_2, li_3, li_4, li_8, li_16, li_20, li_24, li_40, li_63, li_64, li_255, li_256, li_576, nI_add, pk_mul, nz_neg, nz_sub, nz_cl, nz_le, nz_lt, nz_eq, nz_in, nz_div, true_and, forall_eq]
    refine ⟨fun _ => ?_, fun q => absurd h q⟩
    rw [hm, nI_add]
    exact hp
/-- what gathering leaves -/
def gaOK (N : Nat) (S : Nat → Nat) (sz : Int32) (ti ma ra : Nat → Int32) : Prop :=
  ∃ D C M, shOK N S D C M ∧ sz = nI D ∧ (∀ k, k < D → ti k = nI (C k) ∧ ma k = nI (M k)) ∧ ∀ p, p < N → ∃ r, r < D ∧ C r = S p ∧ ra p = nI r
theorem sp_gather {N : Nat} {S : Nat → Nat} {sz st : Int32} {ti ma ra sa : Nat → Int32} {ke : Nat → Int64} {post : Int32 → Int32 → (Nat → Int32) → (Nat → Int32) → (Nat → Int32) → (Nat → Int64) → Prop}
    (hN : N ≤ 576) (hS : ∀ p, p < N → S p < 4294967296 ∧ sa p = nI (S p)) (h0 : st = 0 → gaOK N S sz ti ma ra)
    (hp : ∀ sz' ti' ma' ra' ke', gaOK N S sz' ti' ma' ra' → post sz' 0 ti' ma' ra' ke') : wpSh_gather N N N N N sz st ti ma ra ke sa post := by
  unfold wpSh_gather
  intro K10 K65 h10 h65
  refine ⟨fun _ => ?_, fun e => by rw [e]; exact hp _ _ _ _ _ (h0 e)⟩
  have loop2 : ∀ (g : Nat → Int64) (σ ρ : Nat → Nat), (∀ i, i < N → σ i < N ∧ ρ i < N ∧ σ (ρ i) = i ∧ ρ (σ i) = i ∧ g i = lN (S (σ i) * 1024 + σ i)) → (∀ i j, i < j → j < N → S (σ i) ≤ S (σ j)) → (∀ c, cnt N (fun i => decide (S (σ i) = c)) = cnt N (fun i => decide (S i = c))) →
      ∀ (d i D : Nat) (C M : Nat → Nat) (st' : Int32) (ti' ma' ra' : Nat → Int32), i + d = N → shOK i (fun j => S (σ j)) D C M → (0 < i → 0 < D ∧ C (D - 1) = S (σ (i - 1))) → (∀ k, k < D → ti' k = nI (C k) ∧ ma' k = nI (M k)) → (∀ j, j < i → ∃ r, r < D ∧ C r = S (σ j) ∧ ra' (σ j) = nI r) → K65 (nI i) (nI D) st' ti' ma' ra' g := by
    intro g σ ρ hσ hle hct d
    induction d with
    | zero =>
      intro i D C M st' ti' ma' ra' hi hsh hl ht hr
      have : i = N := by omega
      subst this
      apply h65
      unfold vcSh_gather_65
      refine ⟨fun _ => hp _ _ _ _ _ ⟨D, C, M, ?_, rfl, ht, fun p hpN => ?_⟩, fun q => absurd (nI_le (Nat.le_refl _) (by omega)) q⟩
      · refine ⟨hsh.1, fun p hpN => ?_, fun k hk => ?_, fun k hk => ?_⟩
        · obtain ⟨k, hk, e⟩ := hsh.2.1 (ρ p) (hσ p hpN).2.1
          dsimp only at e
          rw [(hσ p hpN).2.2.1] at e
          exact ⟨k, hk, e⟩
        · obtain ⟨p, hpN, e⟩ := hsh.2.2.1 k hk
          exact ⟨σ p, (hσ p hpN).1, e⟩
        · rw [hsh.2.2.2 k hk]
          exact hct _
      · obtain ⟨r, a, b, c⟩ := hr (ρ p) (hσ p hpN).2.1
        rw [(hσ p hpN).2.2.1] at b c
        exact ⟨r, a, b, c⟩
    | succ d ih =>
      intro i D C M st' ti' ma' ra' hi hsh hl ht hr
      have hiN : i < N := by omega
      obtain ⟨b1, b2, b3, b4, b5⟩ := hσ i hiN
      have hDi : D ≤ i := shOK_D hsh
      apply h65
      unfold vcSh_gather_65
      refine ⟨fun q => absurd q (nI_ge hiN (by omega)), fun _ => ?_⟩
      have hs := hS (σ i) b1
      simp (disch := omega) only [li_0, li_1, li_2, li_3, li_4, li_8, li_16, li_20, li_24, li_40, li_63, li_64, li_255, li_256, li_576, nI_add, pk_mul, nz_neg, nz_sub, nz_cl, nz_le, nz_lt, nz_eq, nz_in, nz_div, true_and, forall_eq]
      rw [b5, key_lo hs.1 (by omega)]
      simp (disch := omega) only [li_0, li_1, li_2, li_3, li_4, li_8, li_16, li_20, li_24, li_40, li_63, li_64, li_255, li_256, li_576, nI_add, pk_mul, nz_neg, nz_sub, nz_cl, nz_le, nz_lt, nz_eq, nz_in, nz_div, true_and, forall_eq]
      rw [hs.2]
      by_cases c : 0 < D ∧ C (D - 1) = S (σ i)
      · refine sp_enlist_old (m := M (D - 1)) (by omega) (by omega) c.1 (by rw [(ht (D - 1) (by omega)).1, c.2]) (ht (D - 1) (by omega)).2 ?_
        simp (disch := omega) only [li_0, li_1, li_2, li_3, li_4, li_8, li_16, li_20, li_24, li_40, li_63, li_64, li_255, li_256, li_576, nI_add, pk_mul, nz_neg, nz_sub, nz_cl, nz_le, nz_lt, nz_eq, nz_in, nz_div, true_and, forall_eq]
        refine ih (i + 1) D C _ _ _ _ _ (by omega) (shOK_old hsh (k := D - 1) (by omega) c.2) (fun _ => ⟨c.1, c.2⟩) (fun k hk => ⟨(ht k hk).1, ?_⟩) (fun j hj => ?_)
        · simp only [upd]
          by_cases e : k = D - 1
          · rw [if_pos e, if_pos e]
          · rw [if_neg e, if_neg e]; exact (ht k hk).2
        · by_cases e : j = i
          · subst e
            exact ⟨D - 1, by omega, c.2, pk_us⟩
          · obtain ⟨r, a1, a2, a3⟩ := hr j (by omega)
            refine ⟨r, a1, a2, ?_⟩
            rw [pk_un (fun q => e ?_)]
            · exact a3
            · have := (hσ j (by omega)).2.2.2.1
              rw [← this, q, b4]
      · have hlt : ∀ k, k < D → C k < S (σ i) := by
          intro k hk
          have hi0 : 0 < i := by omega
          obtain ⟨e1, e2⟩ := hl hi0
          have e3 := hle (i - 1) i (by omega) hiN
          have e4 : C (D - 1) ≠ S (σ i) := fun q => c ⟨e1, q⟩
          by_cases e : k = D - 1
          · rw [e]; omega
          · have := hsh.1 k (D - 1) (by omega) (by omega)
            omega
        refine sp_enlist_new (by omega) (by omega) ?_ ?_
        · by_cases e : D = 0
          · exact Or.inl e
          · right
            rw [(ht (D - 1) (by omega)).1]
            intro q
            have q2 := hlt (D - 1) (by omega)
            have q3 : C (D - 1) < 4294967296 := by omega
            rw [nI_eq32 q3 hs.1] at q
            omega
        · simp (disch := omega) only [li_0, li_1, li_2, li_3, li_4, li_8, li_16, li_20, li_24, li_40, li_63, li_64, li_255, li_256, li_576, nI_add, pk_mul, nz_neg, nz_sub, nz_cl, nz_le, nz_lt, nz_eq, nz_in, nz_div, true_and, forall_eq, Nat.add_sub_cancel]
          refine ih (i + 1) (D + 1) _ _ _ _ _ _ (by omega) (shOK_ins hsh (k := D) (Nat.le_refl _) (fun j hj => hlt j hj) (fun j h1 h2 => by omega)) (fun _ => ⟨by omega, ?_⟩) (fun k hk => ?_) (fun j hj => ?_)
          · simp only [insf, Nat.add_sub_cancel, Nat.lt_irrefl, if_true, if_false]
          · simp only [insf, upd]
            by_cases e : k = D
            · simp only [e, Nat.lt_irrefl, if_true, if_false, and_self]
            · have e2 : k < D := by omega
              simp only [e, e2, if_true, if_false]
              exact ht k e2
          · by_cases e : j = i
            · subst e
              refine ⟨D, by omega, ?_, pk_us⟩
              simp only [insf, Nat.lt_irrefl, if_true, if_false]
            · obtain ⟨r, a1, a2, a3⟩ := hr j (by omega)
              refine ⟨r, by omega, ?_, ?_⟩
              · simp only [insf, a1, if_true]
                exact a2
              · rw [pk_un (fun q => e ?_)]
                · exact a3
                · have := (hσ j (by omega)).2.2.2.1
                  rw [← this, q, b4]
  have loop1 : ∀ (d p : Nat) (ke' : Nat → Int64), p + d = N → (∀ j, j < p → ke' j = lN (S j * 1024 + j)) → K10 (nI p) sz st ti ma ra ke' := by
    intro d
    induction d with
    | zero =>
      intro p ke' hpd hk
      have : p = N := by omega
      subst this
      apply h10
      unfold vcSh_gather_10
      refine ⟨fun _ => ?_, fun q => absurd (nI_le (Nat.le_refl _) (by omega)) q⟩
      rw [li_0]
      refine sp_sortKeys (by omega) (Nat.zero_le _) (Nat.le_refl _) (by omega) (fun g hg hsrt => ?_)
      obtain ⟨σ, ρ, h1, h2, h3⟩ := hg
      have hT : ∀ i, i < p → (g i).toInt = ((S (σ i) * 1024 + σ i : Nat) : Int) := by
        intro i hi
        obtain ⟨⟨-, a⟩, -, -, -, e⟩ := h1 i (Nat.zero_le _) hi
        rw [e, hk _ a, pk_lT]
        have := (hS (σ i) a).1
        omega
      refine loop2 g σ ρ (fun i hi => ?_) (fun i j hij hj => ?_) (fun c => ?_) p 0 0 (fun _ => 0) (fun _ => 0) _ _ _ _ (by omega) shOK_0 (fun q => absurd q (Nat.lt_irrefl _)) (fun k hk => absurd hk (Nat.not_lt_zero _)) (fun k hk => absurd hk (Nat.not_lt_zero _))
      · obtain ⟨⟨-, a⟩, ⟨-, a2⟩, a3, a4, e⟩ := h1 i (Nat.zero_le _) hi
        exact ⟨a, a2, a3, a4, by rw [e, hk _ a]⟩
      · have a := hsrt i j (Nat.zero_le _) hij hj
        rw [hT i (by omega), hT j hj] at a
        have b1 := (h1 i (Nat.zero_le _) (by omega)).1.2
        have b2 := (h1 j (Nat.zero_le _) hj).1.2
        omega
      · have a := h3 p (fun x => decide (x.toInt / 1024 = (c : Int))) (Nat.le_refl _)
        rw [cnt_congr (n := p) (g := fun i => decide (S (σ i) = c)) (fun i hi => ?_), cnt_congr (n := p) (f := fun i => decide ((ke' i).toInt / 1024 = (c : Int))) (g := fun i => decide (S i = c)) (fun i hi => ?_)] at a
        · exact a
        · have := (hS i hi).1
          rw [hk i hi, pk_lT (by omega)]
          apply decide_eq_decide.mpr
          omega
        · have b1 := (h1 i (Nat.zero_le _) hi).1.2
          rw [hT i hi]
          apply decide_eq_decide.mpr
          omega
    | succ d ih =>
      intro p ke' hpd hk
      apply h10
      unfold vcSh_gather_10
      refine ⟨fun q => absurd q (nI_ge (by omega) (by omega)), fun _ => ?_⟩
      have hs := hS p (by omega)
      simp (disch := omega) only [li_0, li_1, li_2, li_3, li_4, li_8, li_16, li_20, li_24, li_40, li_63, li_64, li_255, li_256, li_576, nI_add, pk_mul, nz_neg, nz_sub, nz_cl, nz_le, nz_lt, nz_eq, nz_in, nz_div, true_and, forall_eq]
      rw [hs.2, key_of hs.1 (by omega)]
      refine ih (p + 1) _ (by omega) (fun j hj => ?_)
      simp only [vp_updL]
      by_cases e : j = p
      · rw [if_pos e, e]
      · rw [if_neg e]; exact hk j (by omega)
  exact loop1 N 0 ke (by omega) (fun j hj => absurd hj (Nat.not_lt_zero _))
