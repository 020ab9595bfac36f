/-! the class's boxes -/
theorem uu {f : Nat → Int32} {b : Nat} {x y : Int32} : upd (upd f b x) b y = upd f b y := by
  funext j
  simp only [upd]
  split <;> rfl
theorem nle_m1 {a : Nat} (h : a < 2147483648) : ¬ nI a ≤ -1 := by
  rw [Int32.le_iff_toInt_le, nI_toInt (by omega)]
  have : (-1 : Int32).toInt = -1 := rfl
  omega
theorem fstMin_1 (f : Nat → Nat) : fstMin 1 f 0 := ⟨by omega, fun j hj => by rw [show j = 0 by omega]; exact Nat.le_refl _, fun j hj => absurd hj (Nat.not_lt_zero _)⟩
theorem fstMin_s1 {k b : Nat} {f : Nat → Nat} (h : fstMin k f b) (h2 : f k < f b) : fstMin (k + 1) f k := by
  refine ⟨by omega, fun j hj => ?_, fun j hj => ?_⟩
  · by_cases e : j = k
    · rw [e]; exact Nat.le_refl _
    · have := h.2.1 j (by omega); omega
  · have := h.2.1 j hj; omega
theorem fstMin_s2 {k b : Nat} {f : Nat → Nat} (h : fstMin k f b) (h2 : ¬ f k < f b) : fstMin (k + 1) f b := by
  refine ⟨by have := h.1; omega, fun j hj => ?_, h.2.2⟩
  by_cases e : j = k
  · rw [e]; omega
  · exact h.2.1 j (by omega)
/-- row i is R i; Q is R's way back -/
def rQ (D : Nat) (row : Nat → Int32) (R Q : Nat → Nat) : Prop := (∀ i, i < D → R i < D ∧ Q (R i) = i ∧ row i = nI (R i)) ∧ ∀ k, k < D → Q k < D ∧ R (Q k) = k
def sgp (Q : Nat → Nat) (s e : Nat) : Nat → Bool := fun k => decide (s ≤ Q k ∧ Q k < e)
theorem sgp_t {Q : Nat → Nat} {s e k : Nat} : sgp Q s e k = true ↔ s ≤ Q k ∧ Q k < e := decide_eq_true_iff
theorem sgp_f {Q : Nat → Nat} {s e k : Nat} : sgp Q s e k = false ↔ ¬ (s ≤ Q k ∧ Q k < e) := decide_eq_false_iff_not
theorem seg_0 {D s : Nat} {Q f : Nat → Nat} : sm D (sgp Q s s) f = 0 := sm_none (fun k _ => sgp_f.mpr (by omega))
theorem seg_s {D s i : Nat} {row : Nat → Int32} {R Q f : Nat → Nat} (h : rQ D row R Q) (hs : s ≤ i) (hi : i < D) : sm D (sgp Q s (i + 1)) f = sm D (sgp Q s i) f + f (R i) := by
  obtain ⟨a1, a2, a3⟩ := h.1 i hi
  refine sm_ins (k := R i) a1 (sgp_f.mpr (by omega)) (sgp_t.mpr (by omega)) (fun j hj hne => ?_)
  unfold sgp
  apply decide_eq_decide.mpr
  have : Q j ≠ i := fun e => hne (by rw [← e, (h.2 j hj).2])
  omega
theorem sp_Bx_spreadOf {nr nt D s e c : Nat} {sz ss st : Int32} {row ti : Nat → Int32} {R Q C : Nat → Nat} {post : Int32 → Prop} (hnr : nr < 2147483648) (hnt : nt < 2147483648) (hD1 : D ≤ nr) (hD2 : D ≤ nt) (hse : s < e) (he : e ≤ D) (hc : c < 4)
    (hr : rQ D row R Q) (ht : ∀ k, k < D → C k < 4294967296 ∧ ti k = nI (C k)) (h : post (nI (spr D C (sgp Q s e) c))) : wpBx_spreadOf nr nt sz row ss st ti (nI c) (nI s) (nI e) post := by
  unfold wpBx_spreadOf
  intro K hK
  have loop : ∀ (d i lo hi : Nat), i + d = e → s ≤ i → lo ≤ 255 → hi ≤ 255 → (∀ j, s ≤ j → j < i → lo ≤ lev (C (R j)) c ∧ lev (C (R j)) c ≤ hi) → (lo = 255 ∨ ∃ j, s ≤ j ∧ j < i ∧ lev (C (R j)) c = lo) → (hi = 0 ∨ ∃ j, s ≤ j ∧ j < i ∧ lev (C (R j)) c = hi) → K (nI lo) (nI hi) (nI i) := by
    intro d
    induction d with
    | zero =>
      intro i lo hi hid hsi hlo hhi hb h1 h2
      have : i = e := by omega
      subst this
      apply hK
      unfold vcBx_spreadOf_11
      refine ⟨fun _ => ?_, fun q => absurd (nI_le (Nat.le_refl _) (by omega)) q⟩
      have hs := hr.1 s (by omega)
      have hp : sgp Q s i (R s) = true := sgp_t.mpr (by omega)
      have e1 : hgOf D (sgp Q s i) (fun k => lev (C k) c) = hi := by
        refine hgOf_is hs.1 hp (fun k hk hk2 => ?_) ?_
        · have := sgp_t.mp hk2
          have := (hb (Q k) this.1 this.2).2
          rw [(hr.2 k hk).2] at this
          exact this
        · rcases h2 with q | ⟨j, j1, j2, j3⟩
          · exact Or.inl q
          · have a := hr.1 j (by omega)
            exact Or.inr ⟨R j, a.1, sgp_t.mpr (by omega), j3⟩
      have e2 : lwOf D (sgp Q s i) (fun k => lev (C k) c) = lo := by
        refine lwOf_is hs.1 hp (fun k _ => by have := lev_lt (C k) c; omega) (fun k hk hk2 => ?_) ?_
        · have := sgp_t.mp hk2
          have := (hb (Q k) this.1 this.2).1
          rw [(hr.2 k hk).2] at this
          exact this
        · rcases h1 with q | ⟨j, j1, j2, j3⟩
          · exact Or.inl q
          · have a := hr.1 j (by omega)
            exact Or.inr ⟨R j, a.1, sgp_t.mpr (by omega), j3⟩
      have := hb s (Nat.le_refl _) hse
      rw [nz_sub (by omega)]
      unfold spr at h
      rw [e1, e2] at h
      exact h
    | succ d ih =>
      intro i lo hi hid hsi hlo hhi hb h1 h2
      apply hK
      unfold vcBx_spreadOf_11
      refine ⟨fun q => absurd q (nI_ge (by omega) (by omega)), fun _ => ?_⟩
      obtain ⟨a1, a2, a3⟩ := hr.1 i (by omega)
      have b1 := ht (R i) a1
      simp (disch := omega) only [li_0, li_1, li_2, li_3, li_4, li_8, li_16, li_20, li_24, li_40, li_63, li_64, li_255, li_256, li_576, nI_add, pk_mul, nz_neg, nz_sub, nz_cl, nz_le, nz_lt, nz_eq, nz_in, nz_div, true_and, forall_eq, a3]
      rw [b1.2]
      refine sp_levelOf b1.1 hc ?_
      have l := lev_lt (C (R i)) c
      simp (disch := omega) only [li_0, li_1, li_2, li_3, li_4, li_8, li_16, li_20, li_24, li_40, li_63, li_64, li_255, li_256, li_576, nI_add, pk_mul, nz_neg, nz_sub, nz_cl, nz_le, nz_lt, nz_eq, nz_in, nz_div, true_and, forall_eq]
      have e1 : (if lev (C (R i)) c < lo then nI (lev (C (R i)) c) else nI lo) = nI (if lev (C (R i)) c < lo then lev (C (R i)) c else lo) := by split <;> rfl
      have e2 : (if hi < lev (C (R i)) c then nI (lev (C (R i)) c) else nI hi) = nI (if hi < lev (C (R i)) c then lev (C (R i)) c else hi) := by split <;> rfl
      rw [e1, e2]
      refine ih (i + 1) _ _ (by omega) (by omega) (by split <;> omega) (by split <;> omega) (fun j hj1 hj2 => ?_) ?_ ?_
      · by_cases e3 : j = i
        · rw [e3]
          constructor <;> split <;> omega
        · have := hb j hj1 (by omega)
          constructor <;> split <;> omega
      · split
        · exact Or.inr ⟨i, by omega, by omega, rfl⟩
        · rcases h1 with q | ⟨j, j1, j2, j3⟩
          · exact Or.inl q
          · exact Or.inr ⟨j, j1, by omega, j3⟩
      · split
        · exact Or.inr ⟨i, by omega, by omega, rfl⟩
        · rcases h2 with q | ⟨j, j1, j2, j3⟩
          · exact Or.inl q
          · exact Or.inr ⟨j, j1, by omega, j3⟩
  exact loop (e - s) s 255 0 (by omega) (by omega) (by omega) (by omega) (fun j h1 h2 => by omega) (Or.inl rfl) (Or.inl rfl)
theorem sp_Bx_measure {nr nb nt D s e b : Nat} {sz ss st : Int32} {row sta en we sp wi ti ma : Nat → Int32} {R Q C M : Nat → Nat} {post : (Nat → Int32) → (Nat → Int32) → (Nat → Int32) → (Nat → Int32) → (Nat → Int32) → Prop}
    (hnr : nr < 2147483648) (hnb : nb < 2147483648) (hnt : nt < 2147483648) (hD1 : D ≤ nr) (hD2 : D ≤ nt) (hse : s < e) (he : e ≤ D) (hb : b < nb)
    (hr : rQ D row R Q) (ht : ∀ k, k < D → C k < 4294967296 ∧ ti k = nI (C k)) (hm : ∀ k, k < D → ma k = nI (M k))
    (h : post (upd sta b (nI s)) (upd en b (nI e)) (upd we b (nI (sm D (sgp Q s e) M))) (upd sp b (nI (bsp D C (sgp Q s e)))) (upd wi b (nI (wch D C (sgp Q s e))))) :
    wpBx_measure nr nb nb nb nb nb nt nt sz row sta en we sp wi ss st ti ma (nI b) (nI s) (nI e) post := by
  unfold wpBx_measure
  intro K24 K68 h24 h68
  have loop2 : ∀ (d c best : Nat), c + d = 4 → 0 < c → fstMin c (fun c => 255 - spr D C (sgp Q s e) c) best → K68 (nI c) (upd sta b (nI s)) (upd en b (nI e)) (upd we b (nI (sm D (sgp Q s e) M))) (upd sp b (nI (spr D C (sgp Q s e) best))) (upd wi b (nI best)) := by
    intro d
    induction d with
    | zero =>
      intro c best hcd hc0 hf
      have : c = 4 := by omega
      subst this
      apply h68
      unfold vcBx_measure_68
      have e1 : wch D C (sgp Q s e) = best := fmin_eq hf
      unfold bsp at h
      rw [e1] at h
      exact ⟨fun _ => h, fun q => absurd (by decide) q⟩
    | succ d ih =>
      intro c best hcd hc0 hf
      apply h68
      unfold vcBx_measure_68 vcBx_measure_113
      refine ⟨fun q => absurd q (by rw [li_4]; exact nI_ge (by omega) (by omega)), fun _ => ?_⟩
      refine sp_Bx_spreadOf hnr hnt hD1 hD2 hse he (by omega) hr ht ?_
      have l1 := spr_le (D := D) (C := C) (p := sgp Q s e) (c := c)
      have l2 := spr_le (D := D) (C := C) (p := sgp Q s e) (c := best)
      simp (disch := omega) only [li_0, li_1, li_2, li_3, li_4, li_8, li_16, li_20, li_24, li_40, li_63, li_64, li_255, li_256, li_576, nI_add, pk_mul, nz_neg, nz_sub, nz_cl, nz_le, nz_lt, nz_eq, nz_in, nz_div, true_and, forall_eq, pk_us, uu]
      refine ⟨fun q => ih (c + 1) best (by omega) (by omega) (fstMin_s2 hf (by omega)), fun q => ih (c + 1) c (by omega) (by omega) (fstMin_s1 hf (by omega))⟩
  have loop1 : ∀ (d i : Nat), i + d = e → s ≤ i → K24 (nI i) (upd sta b (nI s)) (upd en b (nI e)) (upd we b (nI (sm D (sgp Q s i) M))) sp wi := by
    intro d
    induction d with
    | zero =>
      intro i hid hsi
      have : i = e := by omega
      subst this
      apply h24
      unfold vcBx_measure_24
      refine ⟨fun _ => ?_, fun q => absurd (nI_le (Nat.le_refl _) (by omega)) q⟩
      refine ⟨vp_in_nI hb (by omega), ?_⟩
      apply h68
      unfold vcBx_measure_68 vcBx_measure_113
      refine ⟨fun q => absurd q (by decide), fun _ => ?_⟩
      rw [li_0]
      refine sp_Bx_spreadOf hnr hnt hD1 hD2 hse he (by omega) hr ht ?_
      have l1 := spr_le (D := D) (C := C) (p := sgp Q s i) (c := 0)
      rw [nz_cl (by omega)]
      simp only [pk_us]
      refine ⟨vp_in_nI hb (by omega), fun q => absurd q (nle_m1 (by omega)), fun _ => ⟨vp_in_nI hb (by omega), vp_in_nI hb (by omega), ?_⟩⟩
      rw [uu, nI_1]
      exact loop2 3 1 0 rfl (by omega) (fstMin_1 _)
    | succ d ih =>
      intro i hid hsi
      apply h24
      unfold vcBx_measure_24
      refine ⟨fun q => absurd q (nI_ge (by omega) (by omega)), fun _ => ?_⟩
      obtain ⟨a1, a2, a3⟩ := hr.1 i (by omega)
      simp (disch := omega) only [li_0, li_1, li_2, li_3, li_4, li_8, li_16, li_20, li_24, li_40, li_63, li_64, li_255, li_256, li_576, nI_add, pk_mul, nz_neg, nz_sub, nz_cl, nz_le, nz_lt, nz_eq, nz_in, nz_div, true_and, forall_eq, a3, pk_us, uu]
      rw [hm (R i) a1, nI_add, ← seg_s hr hsi (by omega)]
      exact ih (i + 1) (by omega) (by omega)
  simp (disch := omega) only [li_0, li_1, li_2, li_3, li_4, li_8, li_16, li_20, li_24, li_40, li_63, li_64, li_255, li_256, li_576, nI_add, pk_mul, nz_neg, nz_sub, nz_cl, nz_le, nz_lt, nz_eq, nz_in, nz_div, true_and, forall_eq]
  have := loop1 (e - s) s (by omega) (Nat.le_refl _)
  rw [seg_0] at this
  exact this
theorem sp_Bx_nextToCut {n z : Nat} {we sp : Nat → Int32} {W P : Nat → Nat} {post : Int32 → Prop} (hn : n < 2147483648) (hz0 : 0 < z) (hz : z ≤ n) (h : ∀ b, b < z → we b = nI (W b) ∧ sp b = nI (P b) ∧ W b ≤ 576 ∧ P b ≤ 255)
    (hp : post (nI (fmin z (fun b => 300000 - (P b * 1024 + W b))))) : wpBx_nextToCut n n (nI z) we sp post := by
  unfold wpBx_nextToCut
  intro K hK
  have loop : ∀ (d k best : Nat), k + d = z → fstMin k (fun b => 300000 - (P b * 1024 + W b)) best → K (nI best) (nI k) := by
    intro d
    induction d with
    | zero =>
      intro k best hk hf
      have : k = z := by omega
      subst this
      apply hK
      unfold vcBx_nextToCut_4
      rw [fmin_eq hf] at hp
      exact ⟨fun _ => hp, fun q => absurd (nI_le (Nat.le_refl _) (by omega)) q⟩
    | succ d ih =>
      intro k best hk hf
      have hb := hf.1
      obtain ⟨a1, a2, a3, a4⟩ := h k (by omega)
      obtain ⟨b1, b2, b3, b4⟩ := h best (by omega)
      have y := fun (q : 300000 - (P k * 1024 + W k) < 300000 - (P best * 1024 + W best)) => ih (k + 1) k (by omega) (fstMin_s1 hf q)
      have n := fun (q : ¬ 300000 - (P k * 1024 + W k) < 300000 - (P best * 1024 + W best)) => ih (k + 1) best (by omega) (fstMin_s2 hf q)
      apply hK
      simp only [vcBx_nextToCut_4, vcBx_nextToCut_32, vcBx_nextToCut_67, vcBx_nextToCut_68, vcBx_nextToCut_79, vcBx_nextToCut_81]
      simp (disch := omega) only [li_0, li_1, li_2, li_3, li_4, li_8, li_16, li_20, li_24, li_40, li_63, li_64, li_255, li_256, li_576, nI_add, pk_mul, nz_neg, nz_sub, nz_cl, nz_le, nz_lt, nz_eq, nz_in, nz_div, true_and, forall_eq, a1, a2, b1, b2]
      refine ⟨fun q => by omega, fun _ => ⟨fun q => ⟨fun q2 => ⟨fun q3 => absurd trivial q3, fun _ => ⟨fun _ => n (by omega), fun q3 => absurd trivial q3⟩⟩, fun q2 => ⟨fun q3 => ⟨fun q4 => absurd trivial q4, fun _ => ⟨fun _ => n (by omega), fun q4 => absurd trivial q4⟩⟩, fun q3 => ⟨fun q4 => absurd trivial q4, fun _ => ⟨fun q4 => by omega, fun _ => y (by omega)⟩⟩⟩⟩, fun q => ⟨fun q2 => ⟨fun _ => y (by omega), fun q3 => by omega⟩, fun q2 => by omega⟩⟩⟩
  exact loop (z - 1) 1 0 (by omega) (fstMin_1 _)
theorem sp_Bx_sort {nr nb nt D s e b ch : Nat} {sz ss st : Int32} {row sta en wi ti : Nat → Int32} {ke : Nat → Int64} {R Q C : Nat → Nat} {post : (Nat → Int32) → (Nat → Int64) → Prop}
    (hnr : nr < 2147483648) (hnb : nb < 2147483648) (hnt : nt < 2147483648) (hD1 : D ≤ nr) (hD2 : D ≤ nt) (hD3 : D ≤ 576) (hse : s < e) (he : e ≤ D) (hb : b < nb) (hch : ch < 4)
    (hr : rQ D row R Q) (ht : ∀ k, k < D → C k < 4294967296 ∧ ti k = nI (C k)) (h1 : sta b = nI s) (h2 : en b = nI e) (h3 : wi b = nI ch)
    (h : ∀ row' ke' R' Q', rQ D row' R' Q' → (∀ k, k < D → ((s ≤ Q' k ∧ Q' k < e) ↔ (s ≤ Q k ∧ Q k < e))) → (∀ k, k < D → ¬ (s ≤ Q k ∧ Q k < e) → Q' k = Q k) → (∀ i j, s ≤ i → i < j → j < e → kyc C ch (R' i) < kyc C ch (R' j)) → post row' ke') :
    wpBx_sortAlongWidest nr nb nb nb nt nt sz row sta en wi ss st ti ke (nI b) post := by
  unfold wpBx_sortAlongWidest
  intro K7 K91 h7 h91
  have fin : ∀ (g : Nat → Int64) (σ ρ : Nat → Nat), (∀ i, s ≤ i → i < e → (s ≤ σ i ∧ σ i < e) ∧ (s ≤ ρ i ∧ ρ i < e) ∧ σ (ρ i) = i ∧ ρ (σ i) = i ∧ g i = lN (kyc C ch (R (σ i)))) → (∀ i j, s ≤ i → i < j → j < e → (g i).toInt ≤ (g j).toInt) →
      ∀ (d i : Nat) (row' : Nat → Int32), i + d = e → s ≤ i → (∀ j, j < D → row' j = if s ≤ j ∧ j < i then nI (R (σ j)) else row j) → K91 (nI i) row' g := by
    intro g σ ρ hg hs d
    have hk : ∀ i, s ≤ i → i < e → (g i).toInt = ((kyc C ch (R (σ i)) : Nat) : Int) := by
      intro i i1 i2
      obtain ⟨a1, a2, a3, a4, a5⟩ := hg i i1 i2
      have b1 := (hr.1 (σ i) (by omega)).1
      have b2 := lev_lt (C (R (σ i))) ch
      rw [a5, pk_lT]
      unfold kyc
      omega
    induction d with
    | zero =>
      intro i row' hid hsi hrow
      have : i = e := by omega
      subst this
      apply h91
      unfold vcBx_sortAlongWidest_91
      simp (disch := omega) only [li_0, li_1, li_2, li_3, li_4, li_8, li_16, li_20, li_24, li_40, li_63, li_64, li_255, li_256, li_576, nI_add, pk_mul, nz_neg, nz_sub, nz_cl, nz_le, nz_lt, nz_eq, nz_in, nz_div, true_and, forall_eq, h2]
      refine ⟨fun _ => ?_, fun q => absurd (Nat.le_refl _) q⟩
      refine h row' g (fun j => if s ≤ j ∧ j < i then R (σ j) else R j) (fun k => if s ≤ Q k ∧ Q k < i then ρ (Q k) else Q k) ⟨fun j hj => ?_, fun k hk => ?_⟩ (fun k hk => ?_) (fun k hk q => if_neg q) (fun x y hx hxy hy => ?_)
      · rw [hrow j hj]
        by_cases c : s ≤ j ∧ j < i
        · obtain ⟨a1, a2, a3, a4, a5⟩ := hg j c.1 c.2
          obtain ⟨b1, b2, b3⟩ := hr.1 (σ j) (by omega)
          simp only [if_pos c, b2, if_pos a1, a4]
          exact ⟨b1, trivial, trivial⟩
        · obtain ⟨b1, b2, b3⟩ := hr.1 j hj
          simp only [if_neg c, b2]
          exact ⟨b1, trivial, b3⟩
      · obtain ⟨b1, b2⟩ := hr.2 k hk
        by_cases c : s ≤ Q k ∧ Q k < i
        · obtain ⟨a1, a2, a3, a4, a5⟩ := hg (Q k) c.1 c.2
          simp only [if_pos c, if_pos a2, a3, b2]
          exact ⟨by omega, trivial⟩
        · simp only [if_neg c, b2]
          exact ⟨b1, trivial⟩
      · by_cases c : s ≤ Q k ∧ Q k < i
        · obtain ⟨a1, a2, a3, a4, a5⟩ := hg (Q k) c.1 c.2
          simp only [if_pos c]
          exact ⟨fun _ => c, fun _ => a2⟩
        · simp only [if_neg c]
      · have c1 : s ≤ x ∧ x < i := ⟨hx, by omega⟩
        have c2 : s ≤ y ∧ y < i := ⟨by omega, hy⟩
        simp only [if_pos c1, if_pos c2]
        have q := hs x y hx hxy hy
        rw [hk x c1.1 c1.2, hk y c2.1 c2.2] at q
        rcases Nat.lt_or_ge (kyc C ch (R (σ x))) (kyc C ch (R (σ y))) with z | z
        · exact z
        · have z2 : kyc C ch (R (σ x)) = kyc C ch (R (σ y)) := by omega
          obtain ⟨a1, a2, a3, a4, a5⟩ := hg x c1.1 c1.2
          obtain ⟨b1, b2, b3, b4, b5⟩ := hg y c2.1 c2.2
          have d1 := hr.1 (σ x) (by omega)
          have d2 := hr.1 (σ y) (by omega)
          have z3 := kyc_inj (by omega) (by omega) z2
          have z4 : σ x = σ y := by rw [← d1.2.1, z3, d2.2.1]
          have z5 : x = y := by rw [← a4, z4, b4]
          omega
    | succ d ih =>
      intro i row' hid hsi hrow
      apply h91
      unfold vcBx_sortAlongWidest_91
      obtain ⟨a1, a2, a3, a4, a5⟩ := hg i hsi (by omega)
      have b1 := (hr.1 (σ i) (by omega)).1
      have b2 := lev_lt (C (R (σ i))) ch
      simp (disch := omega) only [li_0, li_1, li_2, li_3, li_4, li_8, li_16, li_20, li_24, li_40, li_63, li_64, li_255, li_256, li_576, nI_add, pk_mul, nz_neg, nz_sub, nz_cl, nz_le, nz_lt, nz_eq, nz_in, nz_div, true_and, forall_eq, h2]
      refine ⟨fun q => by omega, fun _ => ?_⟩
      rw [a5]
      unfold kyc
      rw [key_lo (by omega) (by omega)]
      refine ih (i + 1) _ (by omega) (by omega) (fun j hj => ?_)
      simp only [upd]
      by_cases c : j = i
      · rw [if_pos c, if_pos (by omega), c]
      · rw [if_neg c, hrow j hj]
        by_cases c2 : s ≤ j ∧ j < i
        · rw [if_pos c2, if_pos (by omega)]
        · rw [if_neg c2, if_neg (by omega)]
  have loop : ∀ (d i : Nat) (ke' : Nat → Int64), i + d = e → s ≤ i → (∀ j, s ≤ j → j < i → ke' j = lN (kyc C ch (R j))) → K7 (nI i) row ke' := by
    intro d
    induction d with
    | zero =>
      intro i ke' hid hsi hk
      have : i = e := by omega
      subst this
      apply h7
      unfold vcBx_sortAlongWidest_7
      simp (disch := omega) only [li_0, li_1, li_2, li_3, li_4, li_8, li_16, li_20, li_24, li_40, li_63, li_64, li_255, li_256, li_576, nI_add, pk_mul, nz_neg, nz_sub, nz_cl, nz_le, nz_lt, nz_eq, nz_in, nz_div, true_and, forall_eq, h1, h2]
      refine ⟨fun _ => ?_, fun q => absurd (Nat.le_refl _) q⟩
      refine sp_sortKeys (by omega) (by omega) (by omega) (by omega) (fun g hg hsrt => ?_)
      obtain ⟨σ, ρ, g1, -, -⟩ := hg
      refine fin g σ ρ (fun x x1 x2 => ?_) hsrt (i - s) s row (by omega) (Nat.le_refl _) (fun j hj => by rw [if_neg (by omega)])
      obtain ⟨c1, c2, c3, c4, c5⟩ := g1 x x1 x2
      exact ⟨c1, c2, c3, c4, by rw [c5, hk _ c1.1 c1.2]⟩
    | succ d ih =>
      intro i ke' hid hsi hk
      apply h7
      unfold vcBx_sortAlongWidest_7
      obtain ⟨a1, a2, a3⟩ := hr.1 i (by omega)
      have b1 := ht (R i) a1
      simp (disch := omega) only [li_0, li_1, li_2, li_3, li_4, li_8, li_16, li_20, li_24, li_40, li_63, li_64, li_255, li_256, li_576, nI_add, pk_mul, nz_neg, nz_sub, nz_cl, nz_le, nz_lt, nz_eq, nz_in, nz_div, true_and, forall_eq, h1, h2, h3, a3]
      refine ⟨fun q => by omega, fun _ => ?_⟩
      rw [b1.2]
      refine sp_levelOf b1.1 hch ?_
      rw [key_of2 (lev_lt _ _) (by omega)]
      refine ih (i + 1) _ (by omega) (by omega) (fun j j1 j2 => ?_)
      simp only [vp_updL]
      by_cases c : j = i
      · rw [if_pos c, c]; rfl
      · rw [if_neg c]; exact hk j j1 (by omega)
  simp (disch := omega) only [li_0, li_1, li_2, li_3, li_4, li_8, li_16, li_20, li_24, li_40, li_63, li_64, li_255, li_256, li_576, nI_add, pk_mul, nz_neg, nz_sub, nz_cl, nz_le, nz_lt, nz_eq, nz_in, nz_div, true_and, forall_eq, h1]
  exact loop (e - s) s ke (by omega) (Nat.le_refl _) (fun j j1 j2 => by omega)
theorem sp_Bx_cutPlace {nr nb nt D s e b : Nat} {sz ss st : Int32} {row sta en we ma : Nat → Int32} {R Q M : Nat → Nat} {post : Int32 → Prop}
    (hnr : nr < 2147483648) (hnb : nb < 2147483648) (hnt : nt < 2147483648) (hD1 : D ≤ nr) (hD2 : D ≤ nt) (hM : tot D M ≤ 576) (hse : s + 1 < e) (he : e ≤ D) (hb : b < nb)
    (hr : rQ D row R Q) (hm : ∀ k, k < D → ma k = nI (M k)) (h1 : sta b = nI s) (h2 : en b = nI e) (h3 : we b = nI (sm D (sgp Q s e) M))
    (h : ∀ mid, s < mid → mid < e → (∀ i, s < i → i < e → (mid ≤ i ↔ i = e - 1 ∨ sm D (sgp Q s e) M ≤ 2 * sm D (sgp Q s i) M)) → post (nI mid)) :
    wpBx_cutPlace nr nb nb nb nt sz row sta en we ss st ma (nI b) post := by
  have hw : sm D (sgp Q s e) M ≤ 576 := Nat.le_trans (sm_all _ _ _) hM
  have mono : ∀ i j, i ≤ j → sm D (sgp Q s i) M ≤ sm D (sgp Q s j) M := fun i j hij => sm_le (fun k _ q => sgp_t.mpr (by have := sgp_t.mp q; omega))
  unfold wpBx_cutPlace
  intro K hK
  have loop : ∀ (d i : Nat), s + d = i → i + 1 < e → (∀ j, i < j → j < e - 1 → sm D (sgp Q s e) M ≤ 2 * sm D (sgp Q s j) M) → K (nI (i + 1)) (nI (sm D (sgp Q s (i + 1)) M)) (nI i) := by
    intro d
    induction d with
    | zero =>
      intro i hid hie hx
      have : i = s := by omega
      subst this
      apply hK
      unfold vcBx_cutPlace_34 vcBx_cutPlace_87
      simp (disch := omega) only [li_0, li_1, li_2, li_3, li_4, li_8, li_16, li_20, li_24, li_40, li_63, li_64, li_255, li_256, li_576, nI_add, pk_mul, nz_neg, nz_sub, nz_cl, nz_le, nz_lt, nz_eq, nz_in, nz_div, true_and, forall_eq, h1]
      refine ⟨fun _ => h _ (by omega) (by omega) (fun j j1 j2 => ⟨fun _ => ?_, fun _ => by omega⟩), fun q => absurd (Nat.le_refl _) q⟩
      by_cases c : j = e - 1
      · exact Or.inl c
      · exact Or.inr (hx j j1 (by omega))
    | succ d ih =>
      intro i hid hie hx
      apply hK
      unfold vcBx_cutPlace_34 vcBx_cutPlace_87
      obtain ⟨a1, a2, a3⟩ := hr.1 i (by omega)
      have hs := seg_s (f := M) hr (show s ≤ i by omega) (show i < D by omega)
      have hl := mono (i + 1) e (by omega)
      simp (disch := omega) only [li_0, li_1, li_2, li_3, li_4, li_8, li_16, li_20, li_24, li_40, li_63, li_64, li_255, li_256, li_576, nI_add, pk_mul, nz_neg, nz_sub, nz_cl, nz_le, nz_lt, nz_eq, nz_in, nz_div, true_and, forall_eq, h1, h3, a3, hm (R i) a1]
      refine ⟨fun q => by omega, fun _ => ?_⟩
      rw [show sm D (sgp Q s (i + 1)) M - M (R i) = sm D (sgp Q s i) M by omega]
      refine ⟨fun q => ?_, fun q => h _ (by omega) (by omega) (fun j j1 j2 => ⟨fun z => ?_, fun z => ?_⟩)⟩
      · have := ih (i - 1) (by omega) (by omega) (fun j j1 j2 => by
          by_cases c : j = i
          · rw [c]; exact q
          · exact hx j (by omega) j2)
        rw [show i - 1 + 1 = i by omega] at this
        exact this
      · by_cases c : j = e - 1
        · exact Or.inl c
        · exact Or.inr (hx j (by omega) (by omega))
      · rcases z with z | z
        · omega
        · rcases Nat.lt_or_ge i j with c | c
          · omega
          · have := mono j i c
            omega
  obtain ⟨a1, a2, a3⟩ := hr.1 (e - 1) (by omega)
  have hs := seg_s (f := M) hr (show s ≤ e - 1 by omega) (show e - 1 < D by omega)
  rw [show e - 1 + 1 = e by omega] at hs
  simp (disch := omega) only [li_0, li_1, li_2, li_3, li_4, li_8, li_16, li_20, li_24, li_40, li_63, li_64, li_255, li_256, li_576, nI_add, pk_mul, nz_neg, nz_sub, nz_cl, nz_le, nz_lt, nz_eq, nz_in, nz_div, true_and, forall_eq, h2, h3, a3, hm (R (e - 1)) a1]
  have := loop (e - 2 - s) (e - 2) (by omega) (by omega) (fun j j1 j2 => by omega)
  rw [show e - 2 + 1 = e - 1 by omega] at this
  rw [show sm D (sgp Q s e) M - M (R (e - 1)) = sm D (sgp Q s (e - 1)) M by omega, show e - 1 - 1 = e - 2 by omega]
  exact this
