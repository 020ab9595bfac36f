/-! the different colours of a row of samples, rising, each with its number of samples -/
def shOK (N : Nat) (S : Nat → Nat) (D : Nat) (C M : Nat → Nat) : Prop :=
  (∀ i j, i < j → j < D → C i < C j) ∧ (∀ p, p < N → ∃ k, k < D ∧ C k = S p) ∧ (∀ k, k < D → ∃ p, p < N ∧ S p = C k) ∧ ∀ k, k < D → M k = cnt N (fun p => decide (S p = C k))
theorem shOK_inj {N D : Nat} {S C M : Nat → Nat} (h : shOK N S D C M) {i j : Nat} (hi : i < D) (hj : j < D) (e : C i = C j) : i = j := by
  rcases Nat.lt_trichotomy i j with q | q | q
  · have := h.1 i j q hj; omega
  · exact q
  · have := h.1 j i q hi; omega
theorem shOK_one {N D D' : Nat} {S C M C' M' : Nat → Nat} (h : shOK N S D C M) (h' : shOK N S D' C' M') : D = D' ∧ ∀ k, k < D → C k = C' k ∧ M k = M' k := by
  obtain ⟨e, e2⟩ := inc_one h.1 h'.1 (fun i hi => by
    obtain ⟨p, hp, q⟩ := h.2.2.1 i hi
    obtain ⟨k, hk, q2⟩ := h'.2.1 p hp
    exact ⟨k, hk, q2.trans q⟩) (fun i hi => by
    obtain ⟨p, hp, q⟩ := h'.2.2.1 i hi
    obtain ⟨k, hk, q2⟩ := h.2.1 p hp
    exact ⟨k, hk, q2.trans q⟩)
  refine ⟨e, fun k hk => ⟨e2 k hk, ?_⟩⟩
  rw [h.2.2.2 k hk, h'.2.2.2 k (by omega), e2 k hk]
theorem shOK_sum {N D : Nat} {S C M : Nat → Nat} (h : shOK N S D C M) (F : Nat → Nat) : tot N (fun p => F (S p)) = tot D (fun k => M k * F (C k)) := by
  rw [tot_congr (n := D) (g := fun k => cnt N (fun p => decide (S p = C k)) * F (C k)) (fun k hk => by rw [h.2.2.2 k hk])]
  have hx : ∀ n, n ≤ N → tot n (fun p => F (S p)) = tot D (fun k => cnt n (fun p => decide (S p = C k)) * F (C k)) := by
    intro n
    induction n with
    | zero =>
      intro _
      rw [tot_0 (n := D) (fun k _ => by show 0 * _ = 0; exact Nat.zero_mul _)]
      rfl
    | succ n ih =>
      intro hn
      rw [tot_s, ih (by omega)]
      have e : ∀ k, k < D → cnt (n + 1) (fun p => decide (S p = C k)) * F (C k) = cnt n (fun p => decide (S p = C k)) * F (C k) + (if S n = C k then F (C k) else 0) := by
        intro k hk
        show (cnt n (fun p => decide (S p = C k)) + (if decide (S n = C k) = true then 1 else 0)) * F (C k) = _
        rw [Nat.add_mul]
        by_cases c : S n = C k
        · rw [if_pos c, if_pos (decide_eq_true c), Nat.one_mul]
        · rw [if_neg c, if_neg (by rw [decide_eq_true_iff]; exact c), Nat.zero_mul]
      rw [tot_congr e, tot_add]
      obtain ⟨k, hk, e3⟩ := h.2.1 n (by omega)
      rw [tot_one (n := D) (k := k) (f := fun k => if S n = C k then F (C k) else 0) hk (fun i hi hne => if_neg (fun q => hne (shOK_inj h hi hk (q.symm.trans e3.symm)))), if_pos e3.symm, e3]
  exact hx N (Nat.le_refl _)
theorem tot_c (n : Nat) : tot n (fun _ => 1) = n := by
  induction n with
  | zero => rfl
  | succ n ih => rw [tot_s, ih]
theorem shOK_N {N D : Nat} {S C M : Nat → Nat} (h : shOK N S D C M) : tot D M = N := by
  have := shOK_sum h (fun _ => 1)
  rw [tot_c, tot_congr (n := D) (g := M) (fun k _ => Nat.mul_one _)] at this
  exact this.symm
theorem shOK_M {N D k : Nat} {S C M : Nat → Nat} (h : shOK N S D C M) (hk : k < D) : 0 < M k ∧ M k ≤ N := by
  rw [h.2.2.2 k hk]
  obtain ⟨p, hp, e⟩ := h.2.2.1 k hk
  exact ⟨cnt_pos hp (decide_eq_true e), cnt_le _ _⟩
theorem shOK_D {N D : Nat} {S C M : Nat → Nat} (h : shOK N S D C M) : D ≤ N := by
  have a := tot_le (n := D) (f := fun _ => 1) (g := M) (fun k hk => (shOK_M h hk).1)
  rw [tot_c, shOK_N h] at a
  exact a
theorem shOK_D0 {N D : Nat} {S C M : Nat → Nat} (h : shOK N S D C M) (hN : 0 < N) : 0 < D := by
  obtain ⟨k, hk, -⟩ := h.2.1 0 hN
  omega
theorem shOK_C {N D B : Nat} {S C M : Nat → Nat} (h : shOK N S D C M) (hS : ∀ p, p < N → S p < B) : ∀ k, k < D → C k < B := by
  intro k hk
  obtain ⟨p, hp, e⟩ := h.2.2.1 k hk
  rw [← e]
  exact hS p hp
theorem shOK_0 {S C M : Nat → Nat} : shOK 0 S 0 C M := ⟨fun _ _ _ h => absurd h (Nat.not_lt_zero _), fun _ h => absurd h (Nat.not_lt_zero _), fun _ h => absurd h (Nat.not_lt_zero _), fun _ h => absurd h (Nat.not_lt_zero _)⟩
theorem shOK_cg {N D : Nat} {S C M C' M' : Nat → Nat} (h : shOK N S D C M) (hc : ∀ k, k < D → C' k = C k) (hm : ∀ k, k < D → M' k = M k) : shOK N S D C' M' := by
  refine ⟨fun i j h1 h2 => ?_, fun p hp => ?_, fun k hk => ?_, fun k hk => ?_⟩
  · rw [hc i (by omega), hc j h2]; exact h.1 i j h1 h2
  · obtain ⟨k, hk, e⟩ := h.2.1 p hp
    exact ⟨k, hk, (hc k hk).trans e⟩
  · rw [hc k hk]; exact h.2.2.1 k hk
  · rw [hm k hk, hc k hk]; exact h.2.2.2 k hk
/-- x comes in at place k -/
def insf (f : Nat → Nat) (k x : Nat) : Nat → Nat := fun j => if j < k then f j else if j = k then x else f (j - 1)
theorem shOK_old {n D k : Nat} {T C M : Nat → Nat} (h : shOK n T D C M) (hk : k < D) (e : C k = T n) : shOK (n + 1) T D C (fun j => if j = k then M k + 1 else M j) := by
  refine ⟨h.1, fun p hp => ?_, fun j hj => ?_, fun j hj => ?_⟩
  · by_cases c : p = n
    · rw [c]; exact ⟨k, hk, e⟩
    · exact h.2.1 p (by omega)
  · obtain ⟨p, hp, q⟩ := h.2.2.1 j hj
    exact ⟨p, by omega, q⟩
  · show (if j = k then M k + 1 else M j) = cnt n _ + (if decide (T n = C j) = true then 1 else 0)
    by_cases c : j = k
    · subst c
      rw [if_pos rfl, if_pos (decide_eq_true e.symm), h.2.2.2 j hj]
    · rw [if_neg c, if_neg (by rw [decide_eq_true_iff]; exact fun q => c (shOK_inj h hj hk (q.symm.trans e.symm))), h.2.2.2 j hj, Nat.add_zero]
theorem shOK_ins {n D k : Nat} {T C M : Nat → Nat} (h : shOK n T D C M) (hk : k ≤ D) (h1 : ∀ j, j < k → C j < T n) (h2 : ∀ j, k ≤ j → j < D → T n < C j) : shOK (n + 1) T (D + 1) (insf C k (T n)) (insf M k 1) := by
  have hno : ∀ p, p < n → T p ≠ T n := by
    intro p hp e
    obtain ⟨j, hj, q⟩ := h.2.1 p hp
    by_cases c : j < k
    · have := h1 j c; omega
    · have := h2 j (by omega) hj; omega
  refine ⟨fun i j hij hj => ?_, fun p hp => ?_, fun j hj => ?_, fun j hj => ?_⟩
  · unfold insf
    by_cases a : i < k
    · rw [if_pos a]
      by_cases b : j < k
      · rw [if_pos b]; exact h.1 i j hij (by omega)
      · rw [if_neg b]
        by_cases b2 : j = k
        · rw [if_pos b2]; exact h1 i a
        · rw [if_neg b2]
          have := h1 i a
          have := h2 (j - 1) (by omega) (by omega)
          omega
    · rw [if_neg a, if_neg (show ¬ j < k by omega), if_neg (show ¬ j = k by omega)]
      by_cases a2 : i = k
      · rw [if_pos a2]; exact h2 (j - 1) (by omega) (by omega)
      · rw [if_neg a2]; exact h.1 (i - 1) (j - 1) (by omega) (by omega)
  · unfold insf
    by_cases c : p = n
    · exact ⟨k, by omega, by rw [if_neg (Nat.lt_irrefl _), if_pos rfl, c]⟩
    · obtain ⟨j, hj, q⟩ := h.2.1 p (by omega)
      by_cases b : j < k
      · exact ⟨j, by omega, by rw [if_pos b]; exact q⟩
      · exact ⟨j + 1, by omega, by rw [if_neg (by omega), if_neg (by omega), Nat.add_sub_cancel]; exact q⟩
  · unfold insf
    by_cases b : j < k
    · rw [if_pos b]
      obtain ⟨p, hp, q⟩ := h.2.2.1 j (by omega)
      exact ⟨p, by omega, q⟩
    · rw [if_neg b]
      by_cases b2 : j = k
      · rw [if_pos b2]; exact ⟨n, by omega, rfl⟩
      · rw [if_neg b2]
        obtain ⟨p, hp, q⟩ := h.2.2.1 (j - 1) (by omega)
        exact ⟨p, by omega, q⟩
  · have hz : cnt n (fun p => decide (T p = T n)) = 0 := by
      rw [cnt_tot]
      exact tot_0 (fun p hp => if_neg (by rw [decide_eq_true_iff]; exact hno p hp))
    show insf M k 1 j = cnt n (fun p => decide (T p = insf C k (T n) j)) + (if decide (T n = insf C k (T n) j) = true then 1 else 0)
    unfold insf
    by_cases b : j < k
    · have := h1 j b
      simp only [if_pos b]
      rw [if_neg (by rw [decide_eq_true_iff]; omega), Nat.add_zero]
      exact h.2.2.2 j (by omega)
    · simp only [if_neg b]
      by_cases b2 : j = k
      · simp only [if_pos b2]
        rw [hz]
        simp
      · simp only [if_neg b2]
        have := h2 (j - 1) (by omega) (by omega)
        rw [if_neg (by rw [decide_eq_true_iff]; omega), Nat.add_zero]
        exact h.2.2.2 (j - 1) (by omega)
/-! bits of keys -/
theorem lb_n {n : Nat} (h : n < 18446744073709551616) : (UInt64.ofNat n).toNat = n := Nat.mod_eq_of_lt h
theorem lb_and {a s : Nat} (hs : s < 64) (ha : a < 18446744073709551616) : lN a &&& lN (2 ^ s - 1) = lN (a % 2 ^ s) := by
  have hp : 2 ^ s < 2 ^ 64 := Nat.pow_lt_pow_right (by decide) hs
  have h : UInt64.ofNat a &&& UInt64.ofNat (2 ^ s - 1) = UInt64.ofNat (a &&& (2 ^ s - 1)) := UInt64.toNat_inj.mp (by rw [UInt64.toNat_and, lb_n ha, lb_n (by omega), lb_n (Nat.lt_of_le_of_lt Nat.and_le_left ha)])
  rw [Nat.and_two_pow_sub_one_eq_mod] at h
  have h2 := congrArg UInt64.toInt64 h
  exact h2
theorem lb_or {k a b : Nat} (ha : a < 2 ^ k) (h : b * 2 ^ k + a < 18446744073709551616) : lN (b * 2 ^ k) ||| lN a = lN (b * 2 ^ k + a) := by
  have h1 : b * 2 ^ k ||| a = b * 2 ^ k + a := by rw [← Nat.shiftLeft_eq, Nat.shiftLeft_add_eq_or_of_lt ha]
  have h3 : UInt64.ofNat (b * 2 ^ k) ||| UInt64.ofNat a = UInt64.ofNat (b * 2 ^ k + a) := UInt64.toNat_inj.mp (by rw [UInt64.toNat_or, lb_n (by omega), lb_n (by omega), lb_n h, h1])
  have h2 := congrArg UInt64.toInt64 h3
  exact h2
theorem lb_shl {a k : Nat} {y : Int64} (hy : (y.toBitVec.smod 64).toNat = k) (ha : a < 18446744073709551616) : lN a <<< y = lN (a * 2 ^ k) := by
  apply Int64.toBitVec_inj.mp
  rw [Int64.toBitVec_shiftLeft]
  apply BitVec.eq_of_toNat_eq
  have hb : (lN a).toBitVec.toNat = a := Nat.mod_eq_of_lt ha
  have h : ((lN a).toBitVec <<< y.toBitVec.smod 64).toNat = (a * 2 ^ k) % 2 ^ 64 := by
    rw [BitVec.shiftLeft_eq', BitVec.toNat_shiftLeft, hb, hy, Nat.shiftLeft_eq]
  exact h
/-- an int taken as a number without sign -/
theorem lb_lo {s : Nat} (h : s < 4294967296) : (nI s).toInt64 &&& 4294967295 = lN s := by
  apply Int64.toBitVec_inj.mp
  rw [Int64.toBitVec_and]
  apply BitVec.eq_of_getLsbD_eq
  intro i hi
  have e1 : (nI s).toInt64.toBitVec = (nI s).toBitVec.signExtend 64 := rfl
  have e2 : (4294967295 : Int64).toBitVec = BitVec.ofNat 64 (2 ^ 32 - 1) := rfl
  have e3 : (lN s).toBitVec = BitVec.ofNat 64 s := rfl
  have e4 : (nI s).toBitVec = BitVec.ofNat 32 s := rfl
  rw [BitVec.getLsbD_and, e1, e2, e3, BitVec.getLsbD_signExtend, e4, BitVec.getLsbD_ofNat, BitVec.getLsbD_ofNat, Nat.testBit_two_pow_sub_one, BitVec.getLsbD_ofNat]
  by_cases c : i < 32
  · simp [c, hi]
  · have : s.testBit i = false := Nat.testBit_lt_two_pow (Nat.lt_of_lt_of_le h (show 4294967296 ≤ 2 ^ i from Nat.pow_le_pow_right (n := 2) (i := 32) (by decide) (by omega)))
    simp [c, this]
theorem key_of {s p : Nat} (hs : s < 4294967296) (hp : p < 1024) : (((nI s).toInt64 &&& 4294967295) <<< ((10 : Int32).toInt64 &&& 63)) ||| (nI p).toInt64 = lN (s * 1024 + p) := by
  rw [lb_lo hs, lb_shl (k := 10) (by decide) (by omega), nI_l (by omega)]
  exact lb_or (k := 10) (by omega) (by omega)
theorem key_lo {s p : Nat} (hs : s < 4294967296) (hp : p < 1024) : (lN (s * 1024 + p) &&& 1023).toInt32 = nI p := by
  rw [show (1023 : Int64) = lN (2 ^ 10 - 1) from rfl, lb_and (by decide) (by omega), lN_i]
  congr 1
  omega
theorem key_of2 {s p : Nat} (hs : s < 256) (hp : p < 1024) : ((nI s).toInt64 <<< ((10 : Int32).toInt64 &&& 63)) ||| (nI p).toInt64 = lN (s * 1024 + p) := by
  rw [nI_l (by omega), lb_shl (k := 10) (by decide) (by omega), nI_l (by omega)]
  exact lb_or (k := 10) (by omega) (by omega)
