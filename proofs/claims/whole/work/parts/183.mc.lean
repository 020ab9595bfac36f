/-! the model cuts a box -/
def rwOK (C G : Nat → Nat) (b ch k m : Nat) (R : Nat → Nat) : Prop := (∀ i, i < m → R i < k ∧ G (R i) = b) ∧ (∀ i j, i < j → j < m → kyc C ch (R i) < kyc C ch (R j)) ∧ ∀ j, j < k → G j = b → ∃ i, i < m ∧ R i = j
theorem rwOK_no {C G R : Nat → Nat} {b ch k m : Nat} (h : rwOK C G b ch k m R) (hk : G k ≠ b) : rwOK C G b ch (k + 1) m R := by
  refine ⟨fun i hi => ⟨by have := (h.1 i hi).1; omega, (h.1 i hi).2⟩, h.2.1, fun j hj hj2 => ?_⟩
  by_cases e : j = k
  · rw [e] at hj2; exact absurd hj2 hk
  · exact h.2.2 j (by omega) hj2
theorem rwOK_ins {C G R : Nat → Nat} {b ch k m a : Nat} (h : rwOK C G b ch k m R) (hk : G k = b) (hk5 : k < 576) (ha : a ≤ m) (h1 : ∀ i, i < a → lev (C (R i)) ch ≤ lev (C k) ch) (h2 : ∀ i, a ≤ i → i < m → lev (C k) ch < lev (C (R i)) ch) : rwOK C G b ch (k + 1) (m + 1) (insf R a k) := by
  have l1 : ∀ i, i < a → kyc C ch (R i) < kyc C ch k := fun i hi => by
    have q1 := h1 i hi
    have q2 := (h.1 i (by omega)).1
    unfold kyc
    omega
  refine ⟨fun i hi => ?_, fun i j hij hj => ?_, fun j hj hj2 => ?_⟩
  · unfold insf
    by_cases c : i < a
    · rw [if_pos c]
      exact ⟨by have := (h.1 i (by omega)).1; omega, (h.1 i (by omega)).2⟩
    · rw [if_neg c]
      by_cases c2 : i = a
      · rw [if_pos c2]; exact ⟨by omega, hk⟩
      · rw [if_neg c2]
        exact ⟨by have := (h.1 (i - 1) (by omega)).1; omega, (h.1 (i - 1) (by omega)).2⟩
  · unfold insf
    by_cases c : i < a
    · rw [if_pos c]
      by_cases d : j < a
      · rw [if_pos d]; exact h.2.1 i j hij (by omega)
      · rw [if_neg d]
        by_cases d2 : j = a
        · rw [if_pos d2]; exact l1 i c
        · rw [if_neg d2]
          exact h.2.1 i (j - 1) (by omega) (by omega)
    · rw [if_neg c, if_neg (show ¬ j < a by omega), if_neg (show ¬ j = a by omega)]
      by_cases c2 : i = a
      · rw [if_pos c2]
        have q1 := h2 (j - 1) (by omega) (by omega)
        have q2 := (h.1 (j - 1) (by omega)).1
        unfold kyc
        omega
      · rw [if_neg c2]; exact h.2.1 (i - 1) (j - 1) (by omega) (by omega)
  · unfold insf
    by_cases e : j = k
    · exact ⟨a, by omega, by rw [if_neg (by omega), if_pos rfl, e]⟩
    · obtain ⟨i, i1, i2⟩ := h.2.2 j (by omega) hj2
      by_cases c : i < a
      · exact ⟨i, by omega, by rw [if_pos c]; exact i2⟩
      · exact ⟨i + 1, by omega, by rw [if_neg (by omega), if_neg (by omega), Nat.add_sub_cancel]; exact i2⟩
theorem seg_s2 {D s i : Nat} {R Q f : Nat → Nat} (h1 : R i < D) (h2 : Q (R i) = i) (h3 : ∀ j, j < D → Q j = i → j = R i) (hs : s ≤ i) : sm D (sgp Q s (i + 1)) f = sm D (sgp Q s i) f + f (R i) := by
  refine sm_ins (k := R i) h1 (sgp_f.mpr (by omega)) (sgp_t.mpr (by omega)) (fun j hj hne => ?_)
  unfold sgp
  apply decide_eq_decide.mpr
  have : Q j ≠ i := fun e => hne (h3 j hj e)
  omega
theorem sp_Md_cut {nc nm ng nr nh D b n ch i0 j0 : Nat} {a1 a2 a3 a4 a5 a6 a7 : Int32} {cs ms gr row cho : Nat → Int32} {C M G : Nat → Nat} {post : Int32 → Int32 → (Nat → Int32) → (Nat → Int32) → Prop}
    (hnc : nc < 2147483648) (hnm : nm < 2147483648) (hng : ng < 2147483648) (hnr : nr < 2147483648) (hnh : nh < 2147483648) (hD : D ≤ 576) (hD1 : 4 * D ≤ nc) (hD2 : D ≤ nm) (hD3 : D ≤ ng) (hD4 : D ≤ nr) (hb : b < nh) (hb2 : b < n) (hn : n < 576) (hch : ch < 4)
    (hC : chs cs D C) (hM : ∀ k, k < D → ms k = nI (M k)) (hMt : tot D M ≤ 576) (hG : ∀ k, k < D → G k < n ∧ gr k = nI (G k)) (hcb : cho b = nI ch) (h1 : i0 < j0) (h2 : j0 < D) (h3 : G i0 = b) (h4 : G j0 = b)
    (h : ∀ rs gr' row', (∀ k, k < D → gr' k = nI (if dc (mvs D C M G b ch k) = true then n else G k)) → post (nI (n + 1)) rs gr' row') :
    wpMd_cut nc nm ng nr nh a1 a2 a3 (nI D) (nI n) a4 a5 a6 a7 cs ms gr row cho (nI b) post := by
  unfold wpMd_cut
  intro K14 K38 K140 h14 h38 h140
  have fin : ∀ (m : Nat) (R : Nat → Nat) (row : Nat → Int32), rwOK C G b ch D m R → (∀ i, i < m → row i = nI (R i)) → 1 < m → m ≤ D → K140 (nI (sm D (pb G b) M)) (nI (sm D (pb G b) M)) (nI (m - 1)) (nI 1) (nI n) (nI m) gr row := by
    intro m R row hrw hrow hm1 hmD
    obtain ⟨Q, hQ⟩ : ∃ Q : Nat → Nat, ∀ k, (∀ i, i < m → R i = k → Q k = i) ∧ ((∀ i, i < m → R i ≠ k) → Q k = m) := by
      have hx : ∀ k, ∃ q, (∀ i, i < m → R i = k → q = i) ∧ ((∀ i, i < m → R i ≠ k) → q = m) := by
        intro k
        by_cases c : ∃ i, i < m ∧ R i = k
        · obtain ⟨i, i1, i2⟩ := c
          refine ⟨i, fun j hj hj2 => ?_, fun q => absurd i2 (q i i1)⟩
          rcases Nat.lt_trichotomy i j with z | z | z
          · have := hrw.2.1 i j z hj
            rw [i2, hj2] at this; omega
          · exact z
          · have := hrw.2.1 j i z i1
            rw [i2, hj2] at this; omega
        · exact ⟨m, fun i i1 i2 => absurd ⟨i, i1, i2⟩ c, fun _ => rfl⟩
      exact ⟨fun k => Classical.choose (hx k), fun k => Classical.choose_spec (hx k)⟩
    have hr1 : ∀ i, 0 ≤ i → i < m → R i < D ∧ Q (R i) = i := fun i _ hi => ⟨(hrw.1 i hi).1, (hQ (R i)).1 i hi rfl⟩
    have hGQ : ∀ k, k < D → (G k = b ↔ 0 ≤ Q k ∧ Q k < m) := by
      intro k hk
      constructor
      · intro q
        obtain ⟨i, i1, i2⟩ := hrw.2.2 k hk q
        have := (hQ k).1 i i1 i2
        omega
      · rintro ⟨-, q⟩
        refine Classical.byContradiction (fun z => ?_)
        have := (hQ k).2 (fun i i1 i2 => z (by rw [← i2]; exact (hrw.1 i i1).2))
        omega
    have hr2 : ∀ k, k < D → G k = b → R (Q k) = k := by
      intro k hk q
      obtain ⟨i, i1, i2⟩ := hrw.2.2 k hk q
      rw [(hQ k).1 i i1 i2, i2]
    have hss : ∀ i, i < m → sm D (sgp Q 0 (i + 1)) M = sm D (sgp Q 0 i) M + M (R i) := fun i hi => seg_s2 (hr1 i (by omega) hi).1 (hr1 i (by omega) hi).2 (fun j hj q => by
      have g := (hGQ j hj).mpr (by omega)
      have := hr2 j hj g
      rw [q] at this
      exact this.symm) (by omega)
    have mono : ∀ i j, i ≤ j → sm D (sgp Q 0 i) M ≤ sm D (sgp Q 0 j) M := fun i j hij => sm_le (fun k _ q => sgp_t.mpr (by have := sgp_t.mp q; omega))
    have hsum : sm D (pb G b) M = sm D (sgp Q 0 m) M := sm_congr (pb_sg hGQ) (fun _ _ _ => rfl)
    have hw : sm D (sgp Q 0 m) M ≤ 576 := Nat.le_trans (sm_all _ _ _) hMt
    rw [hsum]
    have done : ∀ (mid : Nat) (v3 v4 v5 : Int32) (gr' : Nat → Int32), 0 < mid → mid < m → (∀ i, 0 < i → i < m → (mid ≤ i ↔ i = m - 1 ∨ sm D (sgp Q 0 m) M ≤ 2 * sm D (sgp Q 0 i) M)) → (∀ k, k < D → gr' k = nI (if mid ≤ Q k ∧ Q k < m then n else G k)) → K140 v3 v4 v5 (nI 0) (nI n) (nI m) gr' row := by
      intro mid v3 v4 v5 gr' m1 m2 m3 hgr
      apply h140
      unfold vcMd_cut_140
      simp (disch := omega) only [li_0, li_1, li_2, li_3, li_4, li_8, li_16, li_20, li_24, li_40, li_63, li_64, li_255, li_256, li_576, nI_add, pk_mul, nz_neg, nz_sub, nz_cl, nz_le, nz_lt, nz_eq, nz_in, nz_div, true_and, forall_eq]
      refine ⟨fun _ => h _ _ _ (fun k hk => ?_), fun q => absurd trivial q⟩
      rw [hgr k hk]
      have := mvs_gen (C := C) (ch := ch) hr1 hr2 hGQ (by omega) (fun i j _ hij hj => hrw.2.1 i j hij hj) m1 m2 m3 k hk
      by_cases c : mid ≤ Q k ∧ Q k < m
      · rw [if_pos c, if_pos (dc_t (this.mpr c))]
      · rw [if_neg c, if_neg (fun z => c (this.mp (dc_iff.mp z)))]
    have loop : ∀ (d i : Nat) (gr' : Nat → Int32), i = d + 1 → i < m → (∀ j, i ≤ j → j < m - 1 → sm D (sgp Q 0 m) M ≤ 2 * sm D (sgp Q 0 j) M) → (∀ k, k < D → gr' k = nI (if i < Q k ∧ Q k < m then n else G k)) → K140 (nI (sm D (sgp Q 0 m) M)) (nI (sm D (sgp Q 0 (i + 1)) M)) (nI i) (nI 1) (nI n) (nI m) gr' row := by
      intro d
      induction d with
      | zero =>
        intro i gr' hid him hx hgr
        subst hid
        apply h140
        unfold vcMd_cut_140 vcMd_cut_211 vcMd_cut_212
        have r1 := hr1 1 (by omega) him
        have s1 := hss 1 him
        have hl := mono 2 m (by omega)
        have hr0 := hrow 1 him
        simp (disch := omega) only [Nat.zero_add, li_0, li_1, li_2, li_3, li_4, li_8, li_16, li_20, li_24, li_40, li_63, li_64, li_255, li_256, li_576, nI_add, pk_mul, nz_neg, nz_sub, nz_cl, nz_le, nz_lt, nz_eq, nz_in, nz_div, true_and, forall_eq, hr0, hM (R 1) r1.1]
        refine ⟨fun q => by omega, fun _ => ⟨fun _ => ?_, fun q => by omega⟩⟩
        refine done 1 _ _ _ _ (by omega) him (fun j j1 j2 => ⟨fun _ => ?_, fun _ => j1⟩) (fun k hk => ?_)
        · by_cases c : j = m - 1
          · exact Or.inl c
          · exact Or.inr (hx j (by omega) (by omega))
        · simp only [upd]
          by_cases c : k = R 1
          · rw [if_pos c, c, r1.2, if_pos (by omega)]
          · rw [if_neg c, hgr k hk]
            have : Q k ≠ 1 := fun q => c (by
              have g := (hGQ k hk).mpr (by omega)
              have := hr2 k hk g
              rw [q] at this
              exact this.symm)
            by_cases c2 : 1 < Q k ∧ Q k < m
            · rw [if_pos c2, if_pos (by omega)]
            · rw [if_neg c2, if_neg (by omega)]
      | succ d ih =>
        intro i gr' hid him hx hgr
        apply h140
        unfold vcMd_cut_140 vcMd_cut_211 vcMd_cut_212
        have r1 := hr1 i (by omega) him
        have r2 := hr1 (i - 1) (by omega) (by omega)
        have s1 := hss i him
        have s2 := hss (i - 1) (by omega)
        rw [show i - 1 + 1 = i by omega] at s2
        have hl := mono (i + 1) m (by omega)
        have hr0 := hrow i him
        have hr3 := hrow (i - 1) (by omega)
        have hgr' : ∀ k, k < D → upd gr' (R i) (nI n) k = nI (if i - 1 < Q k ∧ Q k < m then n else G k) := by
          intro k hk
          simp only [upd]
          by_cases c : k = R i
          · rw [if_pos c, c, r1.2, if_pos (by omega)]
          · rw [if_neg c, hgr k hk]
            have : Q k ≠ i := fun q => c (by
              have g := (hGQ k hk).mpr (by omega)
              have := hr2 k hk g
              rw [q] at this
              exact this.symm)
            by_cases c2 : i < Q k ∧ Q k < m
            · rw [if_pos c2, if_pos (by omega)]
            · rw [if_neg c2, if_neg (by omega)]
        simp (disch := omega) only [li_0, li_1, li_2, li_3, li_4, li_8, li_16, li_20, li_24, li_40, li_63, li_64, li_255, li_256, li_576, nI_add, pk_mul, nz_neg, nz_sub, nz_cl, nz_le, nz_lt, nz_eq, nz_in, nz_div, true_and, forall_eq, hr0, hr3, hM (R i) r1.1, hM (R (i - 1)) r2.1]
        refine ⟨fun q => by omega, fun _ => ⟨fun q => by omega, fun _ => ⟨fun q => ?_, fun q => ?_⟩⟩⟩
        · refine done i _ _ _ _ (by omega) him (fun j j1 j2 => ⟨fun z => ?_, fun z => ?_⟩) (fun k hk => ?_)
          · by_cases c : j = m - 1
            · exact Or.inl c
            · exact Or.inr (hx j (by omega) (by omega))
          · rcases z with z | z
            · omega
            · rcases Nat.lt_or_ge j i with y | y
              · have := mono j (i - 1) (by omega)
                omega
              · exact y
          · rw [hgr' k hk]
            by_cases c2 : i ≤ Q k ∧ Q k < m
            · rw [if_pos c2, if_pos (by omega)]
            · rw [if_neg c2, if_neg (by omega)]
        · have := ih (i - 1) (upd gr' (R i) (nI n)) (by omega) (by omega) (fun j j1 j2 => by
            by_cases c : j = i - 1
            · rw [c]; omega
            · exact hx j (by omega) j2) hgr'
          rw [show i - 1 + 1 = i by omega] at this
          rw [show sm D (sgp Q 0 (i + 1)) M - M (R i) = sm D (sgp Q 0 i) M by omega]
          exact this
    have := loop (m - 2) (m - 1) gr (by omega) (by omega) (fun j j1 j2 => by omega) (fun k hk => by rw [if_neg (by omega)]; exact (hG k hk).2)
    rw [show m - 1 + 1 = m by omega] at this
    exact this
  have sort : ∀ (d k m : Nat) (R : Nat → Nat) (row : Nat → Int32), k + d = D → m ≤ k → rwOK C G b ch k m R → (∀ i, i < m → row i = nI (R i)) → K14 (nI ch) (nI k) (nI n) (nI m) gr row := by
    intro d
    induction d with
    | zero =>
      intro k m R row hk hmk hrw hrow
      have : k = D := by omega
      subst this
      apply h14
      unfold vcMd_cut_14
      refine ⟨fun _ => ?_, fun q => absurd (nI_le (Nat.le_refl _) (by omega)) q⟩
      refine sp_Md_samplesOf (M := M) (G := G) hnm hng hD2 hD3 (by omega) hM (fun k hk => ⟨by have := (hG k hk).1; omega, (hG k hk).2⟩) ?_
      obtain ⟨x, x1, x2⟩ := hrw.2.2 i0 (by omega) h3
      obtain ⟨y, y1, y2⟩ := hrw.2.2 j0 h2 h4
      have hxy : x ≠ y := fun q => by rw [q, y2] at x2; omega
      simp (disch := omega) only [li_0, li_1, li_2, li_3, li_4, li_8, li_16, li_20, li_24, li_40, li_63, li_64, li_255, li_256, li_576, nI_add, pk_mul, nz_neg, nz_sub, nz_cl, nz_le, nz_lt, nz_eq, nz_in, nz_div, true_and, forall_eq]
      exact fin m R row hrw hrow (by omega) hmk
    | succ d ih =>
      intro k m R row hk hmk hrw hrow
      have gk := hG k (by omega)
      apply h14
      unfold vcMd_cut_14 vcMd_cut_114
      simp (disch := omega) only [li_0, li_1, li_2, li_3, li_4, li_8, li_16, li_20, li_24, li_40, li_63, li_64, li_255, li_256, li_576, nI_add, pk_mul, nz_neg, nz_sub, nz_cl, nz_le, nz_lt, nz_eq, nz_in, nz_div, true_and, forall_eq, gk.2]
      refine ⟨fun q => by omega, fun _ => ⟨fun q => ih (k + 1) m R row (by omega) (by omega) (rwOK_no hrw q) hrow, fun q => ?_⟩⟩
      have put : ∀ (a : Nat) (row' : Nat → Int32), a ≤ m → (∀ i, i < a → row' i = nI (R i)) → (∀ i, a < i → i ≤ m → row' i = nI (R (i - 1))) → (∀ i, i < a → lev (C (R i)) ch ≤ lev (C k) ch) → (∀ i, a ≤ i → i < m → lev (C k) ch < lev (C (R i)) ch) →
          vcMd_cut_96 nc nm ng nr nh a1 a2 a3 (nI D) a5 a6 a7 cs ms cho (nI b) K14 K38 K140 post (nI ch) (nI k) (nI a) (nI n) (nI m) gr row' := by
        intro a row' ha q1 q2 q3 q4
        unfold vcMd_cut_96 vcMd_cut_114
        simp (disch := omega) only [li_0, li_1, li_2, li_3, li_4, li_8, li_16, li_20, li_24, li_40, li_63, li_64, li_255, li_256, li_576, nI_add, pk_mul, nz_neg, nz_sub, nz_cl, nz_le, nz_lt, nz_eq, nz_in, nz_div, true_and, forall_eq]
        refine ih (k + 1) (m + 1) (insf R a k) _ (by omega) (by omega) (rwOK_ins hrw q (by omega) ha q3 q4) (fun i hi => ?_)
        unfold insf upd
        by_cases c : i < a
        · rw [if_neg (by omega), if_pos c]; exact q1 i c
        · by_cases c2 : i = a
          · rw [if_pos c2, if_neg c, if_pos c2]
          · rw [if_neg c2, if_neg c, if_neg c2]; exact q2 i (by omega) (by omega)
      have shift : ∀ (a : Nat) (row' : Nat → Int32), a ≤ m → (∀ i, i < a → row' i = nI (R i)) → (∀ i, a < i → i ≤ m → row' i = nI (R (i - 1))) → (∀ i, a ≤ i → i < m → lev (C k) ch < lev (C (R i)) ch) → K38 (nI ch) (nI k) (nI a) (nI n) (nI m) gr row' := by
        intro a
        induction a with
        | zero =>
          intro row' ha q1 q2 q4
          apply h38
          unfold vcMd_cut_38
          exact ⟨fun _ => put 0 row' ha q1 q2 (fun i hi => absurd hi (Nat.not_lt_zero _)) q4, fun z => absurd (by decide) z⟩
        | succ a iha =>
          intro row' ha q1 q2 q4
          apply h38
          unfold vcMd_cut_38
          have ra := q1 a (by omega)
          have rk := (hrw.1 a (by omega)).1
          have c1 := (hC (R a) (by omega)).2 ch hch
          have c2 := (hC k (by omega)).2 ch hch
          have l1 := lev_lt (C (R a)) ch
          have l2 := lev_lt (C k) ch
          simp (disch := omega) only [li_0, li_1, li_2, li_3, li_4, li_8, li_16, li_20, li_24, li_40, li_63, li_64, li_255, li_256, li_576, nI_add, pk_mul, nz_neg, nz_sub, nz_cl, nz_le, nz_lt, nz_eq, nz_in, nz_div, true_and, forall_eq, Nat.add_sub_cancel, ra, c1, c2]
          refine ⟨fun z => by omega, fun _ => ⟨fun z => ?_, fun z => ?_⟩⟩
          · refine put (a + 1) row' ha q1 q2 (fun i hi => ?_) q4
            by_cases e : i = a
            · rw [e]; exact z
            · have y := hrw.2.1 i a (by omega) (by omega)
              have y2 := (hrw.1 i (by omega)).1
              unfold kyc at y
              omega
          · refine iha _ (by omega) (fun i hi => ?_) (fun i hi1 hi2 => ?_) (fun i hi1 hi2 => ?_)
            · rw [pk_un (by omega)]; exact q1 i (by omega)
            · by_cases e : i = a + 1
              · rw [e, pk_us, Nat.add_sub_cancel]
              · rw [pk_un e]; exact q2 i (by omega) hi2
            · by_cases e : i = a
              · rw [e]; omega
              · exact q4 i (by omega) hi2
      exact shift m row (Nat.le_refl _) hrow (fun i i1 i2 => by omega) (fun i i1 i2 => by omega)
  simp (disch := omega) only [li_0, li_1, li_2, li_3, li_4, li_8, li_16, li_20, li_24, li_40, li_63, li_64, li_255, li_256, li_576, nI_add, pk_mul, nz_neg, nz_sub, nz_cl, nz_le, nz_lt, nz_eq, nz_in, nz_div, true_and, forall_eq, hcb]
  exact sort D 0 0 (fun _ => 0) row (by omega) (by omega) ⟨fun i hi => absurd hi (Nat.not_lt_zero _), fun i j _ hj => absurd hj (Nat.not_lt_zero _), fun j hj => absurd hj (Nat.not_lt_zero _)⟩ (fun i hi => absurd hi (Nat.not_lt_zero _))
