/-! palettes: k-th colour P k, held by channels -/
def chs (f : Nat → Int32) (z : Nat) (P : Nat → Nat) : Prop := ∀ k, k < z → P k < 4294967296 ∧ ∀ c, c < 4 → f (4 * k + c) = nI (lev (P k) c)
/-- the place of the least, of these the first -/
def fstMin (z : Nat) (D : Nat → Nat) (k : Nat) : Prop := k < z ∧ (∀ j, j < z → D k ≤ D j) ∧ ∀ j, j < k → D k < D j
theorem fstMin_one {z : Nat} {D : Nat → Nat} {k j : Nat} (h : fstMin z D k) (h2 : fstMin z D j) : k = j := by
  rcases Nat.lt_trichotomy k j with q | q | q
  · have a := h2.2.2 k q
    have b := h.2.1 j h2.1
    omega
  · exact q
  · have a := h.2.2 j q
    have b := h2.2.1 k h.1
    omega
theorem fstMin_ex {z : Nat} (hz : 0 < z) (D : Nat → Nat) : ∃ k, fstMin z D k := by
  have h : ∀ n, n < z → ∃ k, k ≤ n ∧ (∀ j, j ≤ n → D k ≤ D j) ∧ ∀ j, j < k → D k < D j := by
    intro n
    induction n with
    | zero => intro _; exact ⟨0, Nat.le_refl _, fun j hj => by rw [Nat.le_zero.mp hj]; exact Nat.le_refl _, fun j hj => absurd hj (Nat.not_lt_zero _)⟩
    | succ n ih =>
      intro hn
      obtain ⟨k, h1, h2, h3⟩ := ih (by omega)
      by_cases c : D (n + 1) < D k
      · refine ⟨n + 1, Nat.le_refl _, fun j hj => ?_, fun j hj => ?_⟩
        · by_cases e : j = n + 1
          · rw [e]; exact Nat.le_refl _
          · have := h2 j (by omega)
            omega
        · have := h2 j (by omega)
          omega
      · refine ⟨k, by omega, fun j hj => ?_, h3⟩
        by_cases e : j = n + 1
        · rw [e]; omega
        · exact h2 j (by omega)
  obtain ⟨k, h1, h2, h3⟩ := h (z - 1) (by omega)
  exact ⟨k, by omega, fun j hj => h2 j (by omega), h3⟩
def dd (r g b a u : Nat) : Nat := sqd r (lev u 0) + sqd g (lev u 1) + sqd b (lev u 2) + sqd a (lev u 3)
theorem dd_le {r g b a : Nat} (hr : r < 256) (hg : g < 256) (hb : b < 256) (ha : a < 256) (u : Nat) : dd r g b a u ≤ 260100 := by
  unfold dd
  have h0 := sqd_le hr (lev_lt u 0)
  have h1 := sqd_le hg (lev_lt u 1)
  have h2 := sqd_le hb (lev_lt u 2)
  have h3 := sqd_le ha (lev_lt u 3)
  omega
theorem sp_closest {n z r g b a : Nat} {f : Nat → Int32} {P : Nat → Nat} {post : Int32 → Prop} (hn : n < 2147483648) (h4 : 4 * z ≤ n) (hz0 : 0 < z) (hz : z ≤ 64) (hP : chs f z P) (hr : r < 256) (hg : g < 256) (hb : b < 256) (ha : a < 256)
    (h : ∀ k, fstMin z (fun j => dd r g b a (P j)) k → post (nI k)) : wpPa_closest n (nI z) f (nI r) (nI g) (nI b) (nI a) post := by
  unfold wpPa_closest
  intro K hK
  have loop : ∀ (fu k best m : Nat), z - k < fu → k ≤ z → ((k = 0 ∧ best = 0 ∧ m = 2147483647) ∨ (0 < k ∧ best < k ∧ m = dd r g b a (P best) ∧ (∀ j, j < k → dd r g b a (P best) ≤ dd r g b a (P j)) ∧ ∀ j, j < best → dd r g b a (P best) < dd r g b a (P j))) → K (nI best) (nI m) (nI k) := by
    intro fu
    induction fu with
    | zero => intro k best m h1; omega
    | succ fu ih =>
      intro k best m hfu hk hi
      have hm : m < 2147483648 := by
        rcases hi with ⟨-, -, rfl⟩ | ⟨-, -, rfl, -⟩
        · decide
        · have := dd_le hr hg hb ha (P best)
          omega
      apply hK
      simp only [vcPa_closest_10, vcPa_closest_111, wpCL_square]
      refine ⟨fun hzk => ?_, fun hzk => ?_⟩
      · have hzk := (nI_leI (by omega) (by omega)).mp hzk
        have ek : k = z := by omega
        subst ek
        rcases hi with ⟨e, -⟩ | ⟨-, h1, -, h2, h3⟩
        · omega
        · exact h best ⟨h1, h2, h3⟩
      · have hkz : k < z := by
          rcases Nat.lt_or_ge k z with q | q
          · exact q
          · exact absurd (nI_le q (by omega)) hzk
        intro v8 hv8
        rw [show (4 : Int32) = nI 4 from rfl, pk_mul] at hv8
        subst hv8
        have e1 : nI (k * 4) + 1 = nI (k * 4 + 1) := nI_1 _
        have e2 : nI (k * 4) + 2 = nI (k * 4 + 2) := nI_add _ 2
        have e3 : nI (k * 4) + 3 = nI (k * 4 + 3) := nI_add _ 3
        have q0 : f (nI (k * 4)).toNatClampNeg = nI (lev (P k) 0) := by rw [nI_clamp (by omega), Nat.mul_comm]; exact (hP k hkz).2 0 (by decide)
        have q1 : f (nI (k * 4 + 1)).toNatClampNeg = nI (lev (P k) 1) := by rw [nI_clamp (by omega), Nat.mul_comm]; exact (hP k hkz).2 1 (by decide)
        have q2 : f (nI (k * 4 + 2)).toNatClampNeg = nI (lev (P k) 2) := by rw [nI_clamp (by omega), Nat.mul_comm]; exact (hP k hkz).2 2 (by decide)
        have q3 : f (nI (k * 4 + 3)).toNatClampNeg = nI (lev (P k) 3) := by rw [nI_clamp (by omega), Nat.mul_comm]; exact (hP k hkz).2 3 (by decide)
        have s0 := sqd_le hr (lev_lt (P k) 0)
        have s1 := sqd_le hg (lev_lt (P k) 1)
        have s2 := sqd_le hb (lev_lt (P k) 2)
        have s3 := sqd_le ha (lev_lt (P k) 3)
        have hd : dd r g b a (P k) = sqd r (lev (P k) 0) + sqd g (lev (P k) 1) + sqd b (lev (P k) 2) + sqd a (lev (P k) 3) := rfl
        have keep : m ≤ dd r g b a (P k) → K (nI best) (nI m) (nI k + 1) := by
          intro hle
          rw [nI_1]
          rcases hi with ⟨e, -, rfl⟩ | ⟨h0, h1, rfl, h2, h3⟩
          · omega
          · refine ih (k + 1) best _ (by omega) (by omega) (Or.inr ⟨by omega, by omega, rfl, fun j hj => ?_, h3⟩)
            by_cases ej : j = k
            · rw [ej]; exact hle
            · exact h2 j (by omega)
        refine ⟨vp_in_nI (by omega) (by omega), ?_⟩
        rw [e1, e2, e3, q0, q1, q2, q3, nI_sq, nI_sq, nI_sq, nI_sq]
        refine ⟨vp_in_nI (by omega) (by omega), ?_⟩
        intro v9 hv9
        rw [nI_add] at hv9
        subst hv9
        refine ⟨fun hc => ?_, fun hc => ⟨vp_in_nI (by omega) (by omega), vp_in_nI (by omega) (by omega), ?_⟩⟩
        · have hc := (nI_leI (by omega) (by omega)).mp hc
          exact keep (by omega)
        · intro v9 hv9
          rw [nI_add, nI_add, ← Nat.add_assoc, ← hd] at hv9
          subst hv9
          have hdl := dd_le hr hg hb ha (P k)
          refine ⟨fun hc2 => keep ((nI_leI (by omega) (by omega)).mp hc2), fun hc2 => ?_⟩
          have hlt : dd r g b a (P k) < m := by
            rcases Nat.lt_or_ge (dd r g b a (P k)) m with q | q
            · exact q
            · exact absurd (nI_le q (by omega)) hc2
          rw [nI_1]
          refine ih (k + 1) k _ (by omega) (by omega) (Or.inr ⟨by omega, by omega, rfl, fun j hj => ?_, fun j hj => ?_⟩)
          · by_cases ej : j = k
            · rw [ej]; exact Nat.le_refl _
            · rcases hi with ⟨e, -⟩ | ⟨h0, h1, rfl, h2, h3⟩
              · omega
              · have := h2 j (by omega)
                omega
          · rcases hi with ⟨e, -⟩ | ⟨h0, h1, rfl, h2, h3⟩
            · omega
            · have := h2 j (by omega)
              omega
  exact loop (z + 1) 0 0 2147483647 (by omega) (by omega) (Or.inl ⟨rfl, rfl, rfl⟩)
/-- the four channels of place k are those of t -/
def setc (f : Nat → Int32) (k t : Nat) : Nat → Int32 := fun j => if 4 * k ≤ j ∧ j < 4 * k + 4 then nI (lev t (j - 4 * k)) else f j
theorem sp_replace {n k t : Nat} {sz : Int32} {f : Nat → Int32} {post : (Nat → Int32) → Prop} (hn : n < 2147483648) (hk : 4 * k + 4 ≤ n) (ht : t < 4294967296) (h : post (setc f k t)) : wpPa_replace n sz f (nI k) (nI t) post := by
  unfold wpPa_replace
  intro K hK
  have step : ∀ (c : Nat) (g : Nat → Int32), c < 4 → K (nI (c + 1)) (upd g (4 * k + c) (nI (lev t c))) → K (nI c) g := by
    intro c g hc hk2
    apply hK
    unfold vcPa_replace_2
    refine ⟨fun h4 => ?_, fun _ => sp_levelOf ht hc ?_⟩
    · rw [show (4 : Int32) = nI 4 from rfl, nI_leI (by omega) (by omega)] at h4
      omega
    · have e : nI k * 4 + nI c = nI (4 * k + c) := by rw [show (4 : Int32) = nI 4 from rfl, pk_mul, nI_add, Nat.mul_comm]
      rw [e]
      refine ⟨vp_in_nI (by omega) (by omega), ?_⟩
      rw [nI_clamp (by omega), nI_1]
      exact hk2
  rw [show (0 : Int32) = nI 0 from rfl]
  refine step 0 f (by decide) (step 1 _ (by decide) (step 2 _ (by decide) (step 3 _ (by decide) ?_)))
  apply hK
  unfold vcPa_replace_2
  refine ⟨fun _ => ?_, fun h4 => absurd (by decide) h4⟩
  have e : upd (upd (upd (upd f (4 * k + 0) (nI (lev t 0))) (4 * k + 1) (nI (lev t 1))) (4 * k + 2) (nI (lev t 2))) (4 * k + 3) (nI (lev t 3)) = setc f k t := by
    funext j
    simp only [upd, setc]
    by_cases h0 : j = 4 * k + 3
    · subst h0
      rw [if_pos rfl, if_pos (by omega), Nat.add_sub_cancel_left]
    · rw [if_neg h0]
      by_cases h1 : j = 4 * k + 2
      · subst h1
        rw [if_pos rfl, if_pos (by omega), Nat.add_sub_cancel_left]
      · rw [if_neg h1]
        by_cases h2 : j = 4 * k + 1
        · subst h2
          rw [if_pos rfl, if_pos (by omega), Nat.add_sub_cancel_left]
        · rw [if_neg h2]
          by_cases h3 : j = 4 * k + 0
          · subst h3
            rw [if_pos rfl, if_pos (by omega), Nat.add_sub_cancel_left]
          · rw [if_neg h3, if_neg (by omega)]
  rw [e]
  exact h
theorem setc_in {f : Nat → Int32} {k t c : Nat} (hc : c < 4) : setc f k t (4 * k + c) = nI (lev t c) := by
  unfold setc
  rw [if_pos (by omega), Nat.add_sub_cancel_left]
theorem setc_out {f : Nat → Int32} {k t j : Nat} (h : j < 4 * k ∨ 4 * k + 4 ≤ j) : setc f k t j = f j := by
  unfold setc
  rw [if_neg (by omega)]
theorem chs_set {f : Nat → Int32} {z k t : Nat} {P : Nat → Nat} (h : chs f z P) (ht : t < 4294967296) : chs (setc f k t) z (fun j => if j = k then t else P j) := by
  intro j hj
  dsimp only
  by_cases e : j = k
  · subst e
    rw [if_pos rfl]
    exact ⟨ht, fun c hc => setc_in hc⟩
  · rw [if_neg e]
    refine ⟨(h j hj).1, fun c hc => ?_⟩
    rw [setc_out (by omega)]
    exact (h j hj).2 c hc
theorem chs_push {f : Nat → Int32} {z t : Nat} {P : Nat → Nat} (h : chs f z P) (ht : t < 4294967296) : chs (setc f z t) (z + 1) (fun j => if j = z then t else P j) := by
  intro j hj
  dsimp only
  by_cases e : j = z
  · subst e
    rw [if_pos rfl]
    exact ⟨ht, fun c hc => setc_in hc⟩
  · rw [if_neg e]
    refine ⟨(h j (by omega)).1, fun c hc => ?_⟩
    rw [setc_out (by omega)]
    exact (h j (by omega)).2 c hc
theorem sp_packedOf {n k z : Nat} {sz : Int32} {f : Nat → Int32} {P : Nat → Nat} {post : Int32 → Prop} (hn : n < 2147483648) (hk : k < z) (h4 : 4 * z ≤ n) (hP : chs f z P) (h : post (nI (P k))) : wpPa_packedOf n sz f (nI k) post := by
  unfold wpPa_packedOf
  intro v2 hv2
  rw [show (4 : Int32) = nI 4 from rfl, pk_mul] at hv2
  subst hv2
  have e1 : nI (k * 4) + 1 = nI (k * 4 + 1) := nI_1 _
  have e2 : nI (k * 4) + 2 = nI (k * 4 + 2) := nI_add _ 2
  have e3 : nI (k * 4) + 3 = nI (k * 4 + 3) := nI_add _ 3
  have q0 : f (nI (k * 4)).toNatClampNeg = nI (lev (P k) 0) := by rw [nI_clamp (by omega), Nat.mul_comm]; exact (hP k hk).2 0 (by decide)
  have q1 : f (nI (k * 4 + 1)).toNatClampNeg = nI (lev (P k) 1) := by rw [nI_clamp (by omega), Nat.mul_comm]; exact (hP k hk).2 1 (by decide)
  have q2 : f (nI (k * 4 + 2)).toNatClampNeg = nI (lev (P k) 2) := by rw [nI_clamp (by omega), Nat.mul_comm]; exact (hP k hk).2 2 (by decide)
  have q3 : f (nI (k * 4 + 3)).toNatClampNeg = nI (lev (P k) 3) := by rw [nI_clamp (by omega), Nat.mul_comm]; exact (hP k hk).2 3 (by decide)
  rw [e1, e2, e3, q0, q1, q2, q3]
  refine ⟨vp_in_nI (by omega) (by omega), vp_in_nI (by omega) (by omega), vp_in_nI (by omega) (by omega), vp_in_nI (by omega) (by omega), sp_packed (lev_lt _ _) (lev_lt _ _) (lev_lt _ _) (lev_lt _ _) ?_⟩
  rw [pk4_lev (hP k hk).1]
  exact h
theorem sp_add {n z t : Nat} {f : Nat → Int32} {post : Int32 → (Nat → Int32) → Prop} (hn : n < 2147483648) (hz : z < 64) (h4 : 256 ≤ n) (ht : t < 4294967296) (h : post (nI (z + 1)) (setc f z t)) : wpPa_add n (nI z) f (nI t) post := by
  unfold wpPa_add vcPa_add_28
  refine ⟨fun hc => ?_, fun _ => sp_replace hn (by omega) ht ?_⟩
  · rw [show (64 : Int32) = nI 64 from rfl, nI_leI (by omega) (by omega)] at hc
    omega
  · intro w hw
    subst hw
    rw [nI_1]
    exact h
