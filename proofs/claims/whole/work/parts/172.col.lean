/-! colours as numbers below 2^32 -/
def lev (t c : Nat) : Nat := t / 2 ^ (24 - 8 * c) % 256
def pk4 (r g b a : Nat) : Nat := r * 16777216 + g * 65536 + b * 256 + a
theorem lev_0 (t : Nat) : lev t 0 = t / 16777216 % 256 := rfl
theorem lev_1 (t : Nat) : lev t 1 = t / 65536 % 256 := rfl
theorem lev_2 (t : Nat) : lev t 2 = t / 256 % 256 := rfl
theorem lev_3 (t : Nat) : lev t 3 = t % 256 := by
  show t / 2 ^ 0 % 256 = t % 256
  rw [Nat.pow_zero, Nat.div_one]
theorem lev_lt (t c : Nat) : lev t c < 256 := Nat.mod_lt _ (by decide)
theorem pk4_lev {t : Nat} (h : t < 4294967296) : pk4 (lev t 0) (lev t 1) (lev t 2) (lev t 3) = t := by
  rw [lev_0, lev_1, lev_2, lev_3]
  unfold pk4
  omega
theorem pk4_lt {r g b a : Nat} (hr : r < 256) (hg : g < 256) (hb : b < 256) (ha : a < 256) : pk4 r g b a < 4294967296 := by
  unfold pk4
  omega
theorem lev_pk {r g b a : Nat} (hr : r < 256) (hg : g < 256) (hb : b < 256) (ha : a < 256) : lev (pk4 r g b a) 0 = r ∧ lev (pk4 r g b a) 1 = g ∧ lev (pk4 r g b a) 2 = b ∧ lev (pk4 r g b a) 3 = a := by
  rw [lev_0, lev_1, lev_2, lev_3]
  unfold pk4
  omega
theorem co4 {c : Nat} (h : c < 4) : c = 0 ∨ c = 1 ∨ c = 2 ∨ c = 3 := by omega
/-- equal channels: equal colours -/
theorem lev_inj {t u : Nat} (ht : t < 4294967296) (hu : u < 4294967296) (h : ∀ c, c < 4 → lev t c = lev u c) : t = u := by
  rw [← pk4_lev ht, ← pk4_lev hu, h 0 (by decide), h 1 (by decide), h 2 (by decide), h 3 (by decide)]
theorem nI_or (a b : Nat) : nI a ||| nI b = nI (a ||| b) := by
  apply Int32.toBitVec_inj.1
  show BitVec.ofNat 32 a ||| BitVec.ofNat 32 b = BitVec.ofNat 32 (a ||| b)
  apply BitVec.eq_of_getLsbD_eq
  intro i hi
  simp [BitVec.getLsbD_ofNat, hi]
theorem nI_oradd {a b i : Nat} (h : b < 2 ^ i) : nI (a * 2 ^ i) ||| nI b = nI (a * 2 ^ i + b) := by
  rw [nI_or, Nat.mul_comm, Nat.two_pow_add_eq_or_of_lt h]
theorem sp_levelOf {t c : Nat} {post : Int32 → Prop} (ht : t < 4294967296) (hc : c < 4) (h : post (nI (lev t c))) : wpCL_levelOf (nI t) (nI c) post := by
  unfold wpCL_levelOf
  have key : (((nI t).toUInt32 >>> ((24 - (8 * nI c)).toUInt32 &&& Int32.toUInt32 31)).toInt32) &&& 255 = nI (lev t c) := by
    have hdiv : t / 2 ^ (24 - 8 * c) < 2 ^ 32 := Nat.lt_of_le_of_lt (Nat.div_le_self _ _) (by omega)
    rcases co4 hc with rfl | rfl | rfl | rfl
    · rw [pk_ushrN (by omega) _ 24 (by decide), pk_andN hdiv 8 (by decide)]; rfl
    · rw [pk_ushrN (by omega) _ 16 (by decide), pk_andN hdiv 8 (by decide)]; rfl
    · rw [pk_ushrN (by omega) _ 8 (by decide), pk_andN hdiv 8 (by decide)]; rfl
    · rw [pk_ushrN (by omega) _ 0 (by decide), pk_andN hdiv 8 (by decide)]; rfl
  rw [key]
  exact h
theorem sp_packed {r g b a : Nat} {post : Int32 → Prop} (hr : r < 256) (hg : g < 256) (hb : b < 256) (ha : a < 256) (h : post (nI (pk4 r g b a))) : wpCL_packed (nI r) (nI g) (nI b) (nI a) post := by
  unfold wpCL_packed
  rw [pk_shlN (n := r) _ 24 (by decide) (by omega), pk_shlN (n := g) _ 16 (by decide) (by omega), pk_shlN (n := b) _ 8 (by decide) (by omega)]
  rw [nI_oradd (a := r) (i := 24) (b := g * 2 ^ 16) (by omega)]
  rw [show r * 2 ^ 24 + g * 2 ^ 16 = (r * 2 ^ 8 + g) * 2 ^ 16 by omega, nI_oradd (i := 16) (b := b * 2 ^ 8) (by omega)]
  rw [show (r * 2 ^ 8 + g) * 2 ^ 16 + b * 2 ^ 8 = ((r * 2 ^ 8 + g) * 2 ^ 8 + b) * 2 ^ 8 by omega, nI_oradd (i := 8) (b := a) (by omega)]
  rw [show ((r * 2 ^ 8 + g) * 2 ^ 8 + b) * 2 ^ 8 + a = pk4 r g b a by unfold pk4; omega]
  exact h
theorem nb_0 : narrow .boolean (.int 0) = .int 0 := rfl
theorem nb_1 : narrow .boolean (.int 1) = .int 1 := rfl
/-- a channel's number, or none -/
theorem ch_or (x : Int32) : x < 0 ∨ (¬ x < 0 ∧ 255 < x) ∨ ∃ n : Nat, n < 256 ∧ x = nI n := by
  rcases Classical.em (x < 0) with h | h
  · exact Or.inl h
  · rcases Classical.em (255 < x) with h2 | h2
    · exact Or.inr (Or.inl ⟨h, h2⟩)
    · obtain ⟨j, hj, e⟩ := nI_of2 (x := x) (M := 255) (n := 255) rfl h (Int32.not_lt.mp h2)
      exact Or.inr (Or.inr ⟨j, by omega, e⟩)
def isCh (x : Int32) : Prop := ∃ n : Nat, n < 256 ∧ x = nI n
theorem ch_not {x : Int32} (h : x < 0 ∨ (¬ x < 0 ∧ 255 < x)) : ¬ isCh x := by
  rintro ⟨n, hn, rfl⟩
  rcases h with h | ⟨-, h⟩
  · exact nI_pos (by omega) h
  · rw [show (255 : Int32) = nI 255 from rfl, nI_ltI (by omega) (by omega)] at h
    omega
theorem ch_in {n : Nat} (hn : n < 256) : ¬ nI n < 0 ∧ ¬ (255 : Int32) < nI n := by
  refine ⟨nI_pos (by omega), fun h => ?_⟩
  rw [show (255 : Int32) = nI 255 from rfl, nI_ltI (by omega) (by omega)] at h
  omega
theorem sp_isLevel {x : Int32} {post : Int32 → Prop} (h1 : isCh x → post 1) (h0 : ¬ isCh x → post 0) : wpCL_isLevel x post := by
  unfold wpCL_isLevel vcCL_isLevel_15 vcCL_isLevel_16
  refine ⟨fun h => ⟨nb_0, h0 (ch_not (Or.inl h))⟩, fun h => ⟨fun h2 => ⟨nb_0, h0 (ch_not (Or.inr ⟨h, h2⟩))⟩, fun h2 => ⟨nb_1, h1 ?_⟩⟩⟩
  rcases ch_or x with h3 | h3 | h3
  · exact absurd h3 h
  · exact absurd h3.2 h2
  · exact h3
theorem sp_square {x : Int32} {post : Int32 → Prop} (h : post (x * x)) : wpCL_square x post := h
/-- how far two colours are apart -/
def sqd (a b : Nat) : Nat := if a ≤ b then (b - a) * (b - a) else (a - b) * (a - b)
def far (t u : Nat) : Nat := sqd (lev t 0) (lev u 0) + sqd (lev t 1) (lev u 1) + sqd (lev t 2) (lev u 2) + sqd (lev t 3) (lev u 3)
theorem sqd_le {a b : Nat} (ha : a < 256) (hb : b < 256) : sqd a b ≤ 65025 := by
  unfold sqd
  split
  · have h : b - a ≤ 255 := by omega
    exact Nat.mul_le_mul h h
  · have h : a - b ≤ 255 := by omega
    exact Nat.mul_le_mul h h
theorem sqd_comm (a b : Nat) : sqd a b = sqd b a := by
  unfold sqd
  by_cases h : a ≤ b
  · by_cases h2 : b ≤ a
    · have : a = b := by omega
      subst this
      rfl
    · rw [if_pos h, if_neg h2]
  · rw [if_neg h, if_pos (by omega)]
theorem far_le (t u : Nat) : far t u ≤ 260100 := by
  unfold far
  have h0 := sqd_le (lev_lt t 0) (lev_lt u 0)
  have h1 := sqd_le (lev_lt t 1) (lev_lt u 1)
  have h2 := sqd_le (lev_lt t 2) (lev_lt u 2)
  have h3 := sqd_le (lev_lt t 3) (lev_lt u 3)
  omega
theorem nI_sq (a b : Nat) : (nI a - nI b) * (nI a - nI b) = nI (sqd a b) := by
  unfold sqd
  rw [jI_n a, jI_n b, jI_sub, jI_mul]
  split
  · next h =>
    rw [jI_n]
    congr 1
    obtain ⟨d, rfl⟩ : ∃ d, b = a + d := ⟨b - a, by omega⟩
    rw [Nat.add_sub_cancel_left, Int.natCast_mul, Int.natCast_add]
    rw [show ((a : Int) - (a + d)) = -(d : Int) by omega, Int.neg_mul_neg]
  · next h =>
    rw [jI_n]
    congr 1
    obtain ⟨d, rfl⟩ : ∃ d, a = b + d := ⟨a - b, by omega⟩
    rw [Nat.add_sub_cancel_left, Int.natCast_mul, Int.natCast_add]
    rw [show ((b : Int) + d - b) = (d : Int) by omega]
theorem sp_farApart {t u : Nat} {post : Int32 → Prop} (ht : t < 4294967296) (hu : u < 4294967296) (h : post (nI (far t u))) : wpCL_farApart (nI t) (nI u) post := by
  unfold wpCL_farApart
  intro K hK
  have step : ∀ (c n : Nat), c < 4 → K (nI (n + sqd (lev t c) (lev u c))) (nI (c + 1)) → K (nI n) (nI c) := by
    intro c n hc hk
    apply hK
    unfold vcCL_farApart_4
    refine ⟨fun h4 => ?_, fun _ => ?_⟩
    · rw [show (4 : Int32) = nI 4 from rfl, nI_leI (by omega) (by omega)] at h4
      omega
    · refine sp_levelOf ht hc (sp_levelOf hu hc (sp_square ?_))
      intro v hv
      subst hv
      rw [nI_sq, nI_add, nI_1]
      exact hk
  rw [show (0 : Int32) = nI 0 from rfl]
  refine step 0 0 (by decide) (step 1 _ (by decide) (step 2 _ (by decide) (step 3 _ (by decide) ?_)))
  apply hK
  unfold vcCL_farApart_4
  refine ⟨fun _ => ?_, fun h4 => absurd (by decide) h4⟩
  rw [show 0 + sqd (lev t 0) (lev u 0) + sqd (lev t 1) (lev u 1) + sqd (lev t 2) (lev u 2) + sqd (lev t 3) (lev u 3) = far t u by unfold far; omega]
  exact h
