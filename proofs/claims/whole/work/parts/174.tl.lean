/-! tools: numbers in VCs, sums, counting -/
theorem li_0 : (0 : Int32) = nI 0 := rfl
theorem li_1 : (1 : Int32) = nI 1 := rfl
theorem li_2 : (2 : Int32) = nI 2 := rfl
theorem li_3 : (3 : Int32) = nI 3 := rfl
theorem li_4 : (4 : Int32) = nI 4 := rfl
theorem li_8 : (8 : Int32) = nI 8 := rfl
theorem li_16 : (16 : Int32) = nI 16 := rfl
theorem li_20 : (20 : Int32) = nI 20 := rfl
theorem li_24 : (24 : Int32) = nI 24 := rfl
theorem li_40 : (40 : Int32) = nI 40 := rfl
theorem li_63 : (63 : Int32) = nI 63 := rfl
theorem li_64 : (64 : Int32) = nI 64 := rfl
theorem li_255 : (255 : Int32) = nI 255 := rfl
theorem li_256 : (256 : Int32) = nI 256 := rfl
theorem li_576 : (576 : Int32) = nI 576 := rfl
theorem lj_0 : (0 : Int64) = lN 0 := rfl
theorem lj_1 : (1 : Int64) = lN 1 := rfl
theorem lj_2 : (2 : Int64) = lN 2 := rfl
theorem nz_neg (a b : Nat) : nI a + -nI b = nI a - nI b := (Int32.sub_eq_add_neg _ _).symm
theorem nz_sub {a b : Nat} (h : b ≤ a) : nI a - nI b = nI (a - b) := pk_sub h
theorem nz_cl {a : Nat} (h : a < 2147483648) : (nI a).toNatClampNeg = a := nI_clamp (by omega)
theorem nz_le {a b : Nat} (h : a < 2147483648) (h2 : b < 2147483648) : (nI a ≤ nI b) = (a ≤ b) := propext (nI_leI (by omega) (by omega))
theorem nz_lt {a b : Nat} (h : a < 2147483648) (h2 : b < 2147483648) : (nI a < nI b) = (a < b) := propext (nI_ltI (by omega) (by omega))
theorem nz_eq {a b : Nat} (h : a < 2147483648) (h2 : b < 2147483648) : (nI a = nI b) = (a = b) := propext (nI_eq (by omega) (by omega))
theorem nz_in {a n : Nat} (h : a < n) (h2 : n < 2147483648) : vp_in (nI a) n = True := eq_true (vp_in_nI h (by omega))
theorem nz_div {a d : Nat} (h : a < 2147483648) (h0 : 0 < d) (h2 : d < 2147483648) : nI a / nI d = nI (a / d) := pk_div (by omega) h0 (by omega)
theorem nz_l {n : Nat} (h : n < 2147483648) : (nI n).toInt64 = lN n := nI_l (by omega)
theorem nz_lsub {a b : Nat} (h : b ≤ a) : lN a - lN b = lN (a - b) := lN_sub h
theorem nz_ldiv {a d : Nat} (h : a < 9223372036854775808) (h0 : 0 < d) (h2 : d < 9223372036854775808) : lN a / lN d = lN (a / d) := pk_lDiv (by omega) h0 (by omega)
theorem nz_lle {a b : Nat} (h : a < 9223372036854775808) (h2 : b < 9223372036854775808) : (lN a ≤ lN b) = (a ≤ b) := propext (pk_lLE (by omega) (by omega))
theorem nz_llt {a b : Nat} (h : a < 9223372036854775808) (h2 : b < 9223372036854775808) : (lN a < lN b) = (a < b) := propext (pk_lLT (by omega) (by omega))
theorem nz_leq {a b : Nat} (h : a < 9223372036854775808) (h2 : b < 9223372036854775808) : (lN a = lN b) = (a = b) := propext (pk_lEQ (by omega) (by omega))
/-- equal colours as ints: equal numbers -/
theorem nI_eq32 {a b : Nat} (h : a < 4294967296) (h2 : b < 4294967296) : nI a = nI b ↔ a = b := by
  refine ⟨fun e => ?_, fun e => by rw [e]⟩
  have := congrArg (fun x => x.toBitVec.toNat) e
  try dsimp only at this
  rw [pk_tn (by omega), pk_tn (by omega)] at this
  exact this
noncomputable def dc (P : Prop) : Bool := @decide P (Classical.propDecidable P)
theorem dc_iff {P : Prop} : dc P = true ↔ P := @decide_eq_true_iff P (Classical.propDecidable P)
theorem dc_no {P : Prop} : dc P = false ↔ ¬ P := by
  refine ⟨fun h q => ?_, fun h => ?_⟩
  · rw [dc_iff.mpr q] at h
    exact Bool.noConfusion h
  · rcases hb : dc P with _ | _
    · rfl
    · exact absurd (dc_iff.mp hb) h
theorem dc_t {P : Prop} (h : P) : dc P = true := dc_iff.mpr h
theorem dc_f {P : Prop} (h : ¬ P) : dc P = false := dc_no.mpr h
theorem dc_eq {P Q : Prop} (h : P ↔ Q) : dc P = dc Q := by rw [propext h]
/-! sums -/
def tot : Nat → (Nat → Nat) → Nat
  | 0, _ => 0
  | n + 1, f => tot n f + f n
theorem tot_s (n : Nat) (f : Nat → Nat) : tot (n + 1) f = tot n f + f n := rfl
theorem tot_congr {n : Nat} {f g : Nat → Nat} (h : ∀ i, i < n → f i = g i) : tot n f = tot n g := by
  induction n with
  | zero => rfl
  | succ n ih => rw [tot_s, tot_s, ih (fun i hi => h i (by omega)), h n (by omega)]
theorem tot_le {n : Nat} {f g : Nat → Nat} (h : ∀ i, i < n → f i ≤ g i) : tot n f ≤ tot n g := by
  induction n with
  | zero => exact Nat.le_refl _
  | succ n ih =>
    rw [tot_s, tot_s]
    have := ih (fun i hi => h i (by omega))
    have := h n (by omega)
    omega
theorem tot_add (n : Nat) (f g : Nat → Nat) : tot n (fun i => f i + g i) = tot n f + tot n g := by
  induction n with
  | zero => rfl
  | succ n ih => rw [tot_s, tot_s, tot_s, ih]; omega
theorem tot_mul (n c : Nat) (f : Nat → Nat) : tot n (fun i => c * f i) = c * tot n f := by
  induction n with
  | zero => rfl
  | succ n ih => rw [tot_s, tot_s, ih, Nat.mul_add]
theorem tot_0 {n : Nat} {f : Nat → Nat} (h : ∀ i, i < n → f i = 0) : tot n f = 0 := by
  induction n with
  | zero => rfl
  | succ n ih => rw [tot_s, ih (fun i hi => h i (by omega)), h n (by omega)]
theorem tot_one {n k : Nat} {f : Nat → Nat} (hk : k < n) (h : ∀ i, i < n → i ≠ k → f i = 0) : tot n f = f k := by
  induction n with
  | zero => omega
  | succ n ih =>
    rw [tot_s]
    by_cases e : k = n
    · subst e
      rw [tot_0 (fun i hi => h i (by omega) (by omega)), Nat.zero_add]
    · rw [ih (by omega) (fun i hi hne => h i (by omega) hne), h n (by omega) (by omega), Nat.add_zero]
theorem tot_up {n k : Nat} {f g : Nat → Nat} (hk : k < n) (h : ∀ i, i < n → i ≠ k → g i = f i) : tot n g + f k = tot n f + g k := by
  induction n with
  | zero => omega
  | succ n ih =>
    rw [tot_s, tot_s]
    by_cases e : k = n
    · subst e
      rw [tot_congr (fun i hi => h i (by omega) (by omega))]
      omega
    · have := ih (by omega) (fun i hi hne => h i (by omega) hne)
      rw [h n (by omega) (by omega)]
      omega
theorem tot_ge {n k : Nat} {f : Nat → Nat} (hk : k < n) : f k ≤ tot n f := by
  induction n with
  | zero => omega
  | succ n ih =>
    rw [tot_s]
    by_cases e : k = n
    · subst e; omega
    · have := ih (by omega)
      omega
/-- the sum of f where p -/
def sm (n : Nat) (p : Nat → Bool) (f : Nat → Nat) : Nat := tot n (fun i => if p i = true then f i else 0)
theorem sm_congr {n : Nat} {p q : Nat → Bool} {f g : Nat → Nat} (h : ∀ i, i < n → p i = q i) (h2 : ∀ i, i < n → p i = true → f i = g i) : sm n p f = sm n q g := by
  refine tot_congr (fun i hi => ?_)
  rw [← h i hi]
  by_cases c : p i = true
  · rw [if_pos c, if_pos c, h2 i hi c]
  · rw [if_neg c, if_neg c]
theorem sm_s (n : Nat) (p : Nat → Bool) (f : Nat → Nat) : sm (n + 1) p f = sm n p f + (if p n = true then f n else 0) := rfl
theorem sm_ins {n k : Nat} {p q : Nat → Bool} {f : Nat → Nat} (hk : k < n) (hp : p k = false) (hq : q k = true) (h : ∀ i, i < n → i ≠ k → q i = p i) : sm n q f = sm n p f + f k := by
  have := tot_up (f := fun i => if p i = true then f i else 0) (g := fun i => if q i = true then f i else 0) hk (fun i hi hne => by rw [h i hi hne])
  try dsimp only at this
  rw [hp, hq, if_neg (by decide), if_pos rfl] at this
  exact this
theorem sm_none {n : Nat} {p : Nat → Bool} {f : Nat → Nat} (h : ∀ i, i < n → p i = false) : sm n p f = 0 := tot_0 (fun i hi => by rw [h i hi]; rfl)
theorem sm_le {n : Nat} {p q : Nat → Bool} {f : Nat → Nat} (h : ∀ i, i < n → p i = true → q i = true) : sm n p f ≤ sm n q f := by
  refine tot_le (fun i hi => ?_)
  by_cases c : p i = true
  · rw [if_pos c, if_pos (h i hi c)]
    exact Nat.le_refl _
  · rw [if_neg c]
    exact Nat.zero_le _
theorem sm_all (n : Nat) (p : Nat → Bool) (f : Nat → Nat) : sm n p f ≤ tot n f := tot_le (fun i _ => by split <;> omega)
theorem sm_ge {n k : Nat} {p : Nat → Bool} {f : Nat → Nat} (hk : k < n) (hp : p k = true) : f k ≤ sm n p f := by
  have := tot_ge (f := fun i => if p i = true then f i else 0) hk
  try dsimp only at this
  rw [if_pos hp] at this
  exact this
theorem sm_fle {n c : Nat} {p : Nat → Bool} {f g : Nat → Nat} (h : ∀ i, i < n → f i ≤ c * g i) : sm n p f ≤ c * sm n p g := by
  rw [sm, sm, ← tot_mul]
  refine tot_le (fun i hi => ?_)
  by_cases c : p i = true
  · rw [if_pos c, if_pos c]; exact h i hi
  · rw [if_neg c]; exact Nat.zero_le _
/-- p and q have nothing in common -/
theorem sm_or {n : Nat} {p q r : Nat → Bool} {f : Nat → Nat} (h : ∀ i, i < n → r i = (p i || q i)) (h2 : ∀ i, i < n → p i = true → q i = false) : sm n r f = sm n p f + sm n q f := by
  rw [sm, sm, sm, ← tot_add]
  refine tot_congr (fun i hi => ?_)
  try dsimp only
  rw [h i hi]
  by_cases c : p i = true
  · rw [c, h2 i hi c]; simp
  · rw [Bool.not_eq_true] at c
    rw [c]; simp
theorem cnt_tot (n : Nat) (p : Nat → Bool) : cnt n p = tot n (fun i => if p i = true then 1 else 0) := by
  induction n with
  | zero => rfl
  | succ n ih =>
    rw [tot_s, ← ih]
    rfl
/-! two rising rows with the same members are the same -/
theorem inc_le {n m : Nat} {f g : Nat → Nat} (hf : ∀ i j, i < j → j < n → f i < f j) (hg : ∀ i j, i < j → j < m → g i < g j) (h : ∀ i, i < n → ∃ j, j < m ∧ g j = f i) (h' : ∀ j, j < m → ∃ i, i < n ∧ f i = g j) :
    ∀ i, i < n → i < m ∧ f i = g i := by
  intro i
  induction i using Nat.strongRecOn with
  | _ i ih =>
    intro hi
    obtain ⟨j, hj, e⟩ := h i hi
    have hji : ¬ j < i := by
      intro q
      have a := (ih j q (by omega)).2
      have b := hf j i q hi
      omega
    have him : i < m := by omega
    refine ⟨him, ?_⟩
    obtain ⟨k, hk, e2⟩ := h' i him
    have hki : ¬ k < i := by
      intro q
      have a := (ih k q (by omega)).2
      have b := hg k i q him
      omega
    by_cases c : i < j
    · have a := hg i j c hj
      by_cases c2 : i < k
      · have b := hf i k c2 hk
        omega
      · have : k = i := by omega
        subst this
        omega
    · have : j = i := by omega
      subst this
      exact e.symm
theorem inc_one {n m : Nat} {f g : Nat → Nat} (hf : ∀ i j, i < j → j < n → f i < f j) (hg : ∀ i j, i < j → j < m → g i < g j) (h : ∀ i, i < n → ∃ j, j < m ∧ g j = f i) (h' : ∀ j, j < m → ∃ i, i < n ∧ f i = g j) :
    n = m ∧ ∀ i, i < n → f i = g i := by
  have a := inc_le hf hg h h'
  have b := inc_le hg hf h' h
  refine ⟨?_, fun i hi => (a i hi).2⟩
  rcases Nat.lt_trichotomy n m with q | q | q
  · have := (b n q).1; omega
  · exact q
  · have := (a m q).1; omega
/-- two rows that don't fall, and have each number as often, are the same -/
theorem srt_lo {n t : Nat} {f : Nat → Nat} (hf : ∀ i j, i < j → j < n → f i ≤ f j) : ∀ i, i < n → (f i < t ↔ i < cnt n (fun j => decide (f j < t))) := by
  induction n with
  | zero => intro i hi; omega
  | succ n ih =>
    have ih' := ih (fun i j h1 h2 => hf i j h1 (by omega))
    have hs : cnt (n + 1) (fun j => decide (f j < t)) = cnt n (fun j => decide (f j < t)) + (if decide (f n < t) = true then 1 else 0) := rfl
    have hl := cnt_le n (fun j => decide (f j < t))
    by_cases c : f n < t
    · have he : cnt n (fun j => decide (f j < t)) = n := by
        rcases Nat.lt_or_ge (cnt n (fun j => decide (f j < t))) n with q | q
        · have a := (ih' _ q).mp (by have := hf _ n q (by omega); omega)
          omega
        · omega
      intro i hi
      rw [hs, he, if_pos (decide_eq_true c)]
      refine ⟨fun _ => hi, fun _ => ?_⟩
      by_cases e : i = n
      · rw [e]; exact c
      · have := hf i n (by omega) (by omega)
        omega
    · intro i hi
      rw [hs, if_neg (by rw [decide_eq_true_iff]; exact c), Nat.add_zero]
      by_cases e : i = n
      · subst e
        exact ⟨fun h => absurd h c, fun h => by omega⟩
      · exact ih' i (by omega)
theorem srt_one {n : Nat} {f g : Nat → Nat} (hf : ∀ i j, i < j → j < n → f i ≤ f j) (hg : ∀ i j, i < j → j < n → g i ≤ g j) (h : ∀ t, cnt n (fun j => decide (f j < t)) = cnt n (fun j => decide (g j < t))) : ∀ i, i < n → f i = g i := by
  intro i hi
  have a : ∀ t, f i < t ↔ g i < t := fun t => by rw [srt_lo hf i hi, srt_lo hg i hi, h t]
  have b := a (f i + 1)
  have c := a (g i + 1)
  omega
/-- two of more numbers than places share one -/
theorem pigeon {n D : Nat} {G : Nat → Nat} (h : n < D) (hG : ∀ k, k < D → G k < n) : ∃ i j, i < j ∧ j < D ∧ G i = G j := by
  induction n generalizing D G with
  | zero => exact absurd (hG 0 h) (Nat.not_lt_zero _)
  | succ n ih =>
    by_cases c : ∃ i, i < D - 1 ∧ G i = G (D - 1)
    · obtain ⟨i, hi, e⟩ := c
      exact ⟨i, D - 1, hi, by omega, e⟩
    · obtain ⟨i, j, h1, h2, h3⟩ := ih (D := D - 1) (G := fun k => if G k = n then G (D - 1) else G k) (by omega) (fun k hk => by
        have a := hG k (by omega)
        have b := hG (D - 1) (by omega)
        have d : G k ≠ G (D - 1) := fun e => c ⟨k, hk, e⟩
        try dsimp only
        split <;> omega)
      have d1 : G i ≠ G (D - 1) := fun e => c ⟨i, by omega, e⟩
      have d2 : G j ≠ G (D - 1) := fun e => c ⟨j, by omega, e⟩
      refine ⟨i, j, h1, by omega, ?_⟩
      try dsimp only at h3
      split at h3 <;> split at h3 <;> omega
theorem lc_ge (x y : Int64) : (nI 0 ≤ lg_cmp x y) = (y ≤ x) := propext (lg_cmp_ge x y)
theorem lc_le (x y : Int64) : (lg_cmp x y ≤ nI 0) = (x ≤ y) := propext (lg_cmp_le x y)
theorem lc_gt (x y : Int64) : (nI 0 < lg_cmp x y) = (y < x) := propext (lg_cmp_gt x y)
theorem lc_lt (x y : Int64) : (lg_cmp x y < nI 0) = (x < y) := propext (lg_cmp_lt x y)
theorem lc_eq (x y : Int64) : (lg_cmp x y = nI 0) = (x = y) := propext (lg_cmp_eq x y)
theorem lN_k (n : Nat) : lN n = kI (n : Int) := by
  unfold lN kI
  exact (Int64.ofInt_eq_ofNat).symm
theorem lN_sq {a b : Nat} (ha : a < 256) (hb : b < 256) : (nI a - nI b).toInt64 * (nI a - nI b).toInt64 = lN (sqd a b) := by
  rw [jI_n, jI_n, jI_sub, kI_j (by omega) (by omega), kI_mul, lN_k]
  congr 1
  unfold sqd
  split
  · next h =>
    obtain ⟨d, rfl⟩ : ∃ d, b = a + d := ⟨b - a, by omega⟩
    rw [Nat.add_sub_cancel_left, Int.natCast_mul, Int.natCast_add, show ((a : Int) - (a + d)) = -(d : Int) by omega, Int.neg_mul_neg]
  · next h =>
    obtain ⟨d, rfl⟩ : ∃ d, a = b + d := ⟨a - b, by omega⟩
    rw [Nat.add_sub_cancel_left, Int.natCast_mul, Int.natCast_add, show ((b : Int) + d - b) = (d : Int) by omega]
theorem far_comm (t u : Nat) : far t u = far u t := by
  unfold far
  rw [sqd_comm (lev t 0), sqd_comm (lev t 1), sqd_comm (lev t 2), sqd_comm (lev t 3)]
/-- the first channel that differs says which colour is less -/
theorem lev_lt_of {t u c : Nat} (ht : t < 4294967296) (hu : u < 4294967296) (hc : c < 4) (h : ∀ d, d < c → lev t d = lev u d) (hl : lev t c < lev u c) : t < u := by
  rw [← pk4_lev ht, ← pk4_lev hu]
  have b0 := lev_lt t 0
  have b1 := lev_lt t 1
  have b2 := lev_lt t 2
  have b3 := lev_lt t 3
  have d0 := lev_lt u 0
  have d1 := lev_lt u 1
  have d2 := lev_lt u 2
  have d3 := lev_lt u 3
  unfold pk4
  rcases co4 hc with rfl | rfl | rfl | rfl
  · omega
  · have := h 0 (by omega)
    omega
  · have := h 0 (by omega)
    have := h 1 (by omega)
    omega
  · have := h 0 (by omega)
    have := h 1 (by omega)
    have := h 2 (by omega)
    omega
