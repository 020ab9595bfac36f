/-! joining -/
def cst (W Mc : Nat → Nat) (a b : Nat) : Nat := W a * W b * far (Mc a) (Mc b) / (W a + W b)
def jf (z : Nat) (c : Nat → Nat → Nat) (i : Nat) : Nat := if i / 64 < i % 64 ∧ i % 64 < z then c (i / 64) (i % 64) else 1099511627776
def jbest (z : Nat) (c : Nat → Nat → Nat) : Nat := fmin 4096 (jf z c)
def jnG (G : Nat → Nat) (a b : Nat) : Nat → Nat := fun k => if G k = b then a else if b < G k then G k - 1 else G k
def jcost (D : Nat) (C M G : Nat → Nat) : Nat → Nat → Nat := cst (fun j => sm D (pb G j) M) (fun j => mcol D C M (pb G j))
/-- after n joins of z0 groups -/
def jG (D : Nat) (C M : Nat → Nat) (z0 : Nat) (G0 : Nat → Nat) : Nat → Nat → Nat
  | 0 => G0
  | n + 1 => jnG (jG D C M z0 G0 n) (jbest (z0 - n) (jcost D C M (jG D C M z0 G0 n)) / 64) (jbest (z0 - n) (jcost D C M (jG D C M z0 G0 n)) % 64)
theorem cst_lt {W Mc : Nat → Nat} {a b : Nat} (ha : W a ≤ 576) (hb : W b ≤ 576) : W a * W b * far (Mc a) (Mc b) < 1099511627776 := by
  have h1 : W a * W b ≤ 576 * 576 := Nat.mul_le_mul ha hb
  have h2 := Nat.mul_le_mul h1 (far_le (Mc a) (Mc b))
  omega
theorem cst_big {W Mc : Nat → Nat} {a b : Nat} (ha : W a ≤ 576) (hb : W b ≤ 576) : cst W Mc a b < 1099511627776 := Nat.lt_of_le_of_lt (Nat.div_le_self _ _) (cst_lt ha hb)
theorem jf_at {z a b : Nat} {c : Nat → Nat → Nat} (hab : a < b) (hb : b < z) (hz : z ≤ 64) : jf z c (a * 64 + b) = c a b := by
  unfold jf
  have e1 : (a * 64 + b) / 64 = a := by omega
  have e2 : (a * 64 + b) % 64 = b := by omega
  rw [e1, e2, if_pos ⟨hab, hb⟩]
theorem jf_no {z i : Nat} {c : Nat → Nat → Nat} (h : ¬ (i / 64 < i % 64 ∧ i % 64 < z)) : jf z c i = 1099511627776 := if_neg h
/-- how far the search is: nothing yet, or the first least of what was looked at -/
def jno (f : Nat → Nat) (i : Nat) : Prop := ∀ j, j < i → f j = 1099511627776
def jso (f : Nat → Nat) (i b : Nat) : Prop := fstMin i f b ∧ f b < 1099511627776
theorem jno_x {f : Nat → Nat} {i m : Nat} (h : jno f i) (h2 : ∀ j, i ≤ j → j < m → f j = 1099511627776) : jno f m := fun j hj => by
  rcases Nat.lt_or_ge j i with c | c
  · exact h j c
  · exact h2 j c hj
theorem jso_x {f : Nat → Nat} {i m b : Nat} (h : jso f i b) (him : i ≤ m) (h2 : ∀ j, i ≤ j → j < m → f j = 1099511627776) : jso f m b := by
  refine ⟨⟨by have := h.1.1; omega, fun j hj => ?_, h.1.2.2⟩, h.2⟩
  rcases Nat.lt_or_ge j i with c | c
  · exact h.1.2.1 j c
  · rw [h2 j c hj]; have := h.2; omega
theorem jno_s {f : Nat → Nat} {i : Nat} (h : jno f i) (h2 : f i < 1099511627776) : jso f (i + 1) i := by
  refine ⟨⟨by omega, fun j hj => ?_, fun j hj => ?_⟩, h2⟩
  · rcases Nat.lt_or_ge j i with c | c
    · rw [h j c]; omega
    · rw [show j = i by omega]; exact Nat.le_refl _
  · rw [h j hj]; exact h2
theorem jso_v {z i b : Nat} {c : Nat → Nat → Nat} (h : jso (jf z c) i b) : b / 64 < b % 64 ∧ b % 64 < z := by
  refine Classical.byContradiction (fun q => ?_)
  have := h.2
  rw [jf_no q] at this
  omega
theorem jbest_of {z i b : Nat} {c : Nat → Nat → Nat} (h : jso (jf z c) i b) (hi : i ≤ 4096) (hz : z * 64 ≤ i) : jbest z c = b :=
  fmin_eq (jso_x h hi (fun j hj _ => jf_no (by omega))).1
theorem jbest_ok {z : Nat} {c : Nat → Nat → Nat} (hz : 2 ≤ z) (hz2 : z ≤ 40) (hc : c 0 1 < 1099511627776) : jbest z c / 64 < jbest z c % 64 ∧ jbest z c % 64 < z := by
  have h := fmin_ok (z := 4096) (by omega) (jf z c)
  have h2 := h.2.1 1 (by omega)
  have h3 : jf z c 1 = c 0 1 := jf_at (a := 0) (b := 1) (by omega) (by omega) (by omega)
  exact jso_v (i := 4096) (b := jbest z c) ⟨h, by unfold jbest; omega⟩
theorem sp_Po_cost {z a b : Nat} {sz : Int32} {ma me : Nat → Int32} {W Mc : Nat → Nat} {post : Int64 → Prop} (hz : z ≤ 64) (ha : a < z) (hb : b < z) (h1 : ∀ j, j < z → ma j = nI (W j) ∧ 0 < W j ∧ W j ≤ 576) (h2 : ∀ j, j < z → Mc j < 4294967296 ∧ me j = nI (Mc j))
    (h : post (lN (cst W Mc a b))) : wpPo_costOfJoining 64 64 sz ma me (nI a) (nI b) post := by
  obtain ⟨a1, a2, a3⟩ := h1 a ha
  obtain ⟨b1, b2, b3⟩ := h1 b hb
  obtain ⟨c1, c2⟩ := h2 a ha
  obtain ⟨d1, d2⟩ := h2 b hb
  unfold wpPo_costOfJoining
  simp (disch := omega) only [li_0, li_1, li_2, li_3, li_4, li_8, li_16, li_20, li_24, li_40, li_63, li_64, li_255, li_256, li_576, nI_add, pk_mul, nz_neg, nz_sub, nz_cl, nz_le, nz_lt, nz_eq, nz_in, nz_div, true_and, forall_eq, a1, b1, c2, d2]
  refine ⟨fun _ => sp_farApart c1 d1 ?_, fun q => by omega⟩
  have l := far_le (Mc a) (Mc b)
  have l2 := cst_lt (Mc := Mc) a3 b3
  simp (disch := omega) only [li_0, li_1, li_2, li_3, li_4, li_8, li_16, li_20, li_24, li_40, li_63, li_64, li_255, li_256, li_576, nI_add, pk_mul, nz_neg, nz_sub, nz_cl, nz_le, nz_lt, nz_eq, nz_in, nz_div, true_and, forall_eq, lj_0, lj_1, lj_2, nz_l, lN_add, lN_mul, nz_lsub, nz_ldiv, nz_lle, nz_llt, nz_leq, lN_i, lc_ge, lc_le, lc_gt, lc_lt, lc_eq]
  exact ⟨by omega, h⟩
theorem sp_Po_join {z a b : Nat} {to ma me : Nat → Int32} {T : Nat → Nat → Nat} {W Mc : Nat → Nat} {post : Int32 → (Nat → Int32) → (Nat → Int32) → (Nat → Int32) → Prop} (hz : z ≤ 64) (hab : a < b) (hb : b < z) (hp : plS z T W to ma) (hW : W a + W b ≤ 576)
    (hT : ∀ c, c < 4 → T a c + T b c ≤ 255 * (W a + W b)) (h2 : ∀ j, j < z → me j = nI (Mc j))
    (h : ∀ to' ma' me', plS (z - 1) (fun j c => if j = a then T a c + T b c else T (if j < b then j else j + 1) c) (fun j => if j = a then W a + W b else W (if j < b then j else j + 1)) to' ma' →
      (∀ j, j < z - 1 → me' j = nI (if j = a then mcl (fun c => T a c + T b c) (W a + W b) else Mc (if j < b then j else j + 1))) → post (nI (z - 1)) to' ma' me') :
    wpPo_join 256 64 64 (nI z) to ma me (nI a) (nI b) post := by
  unfold wpPo_join
  intro K hK
  have loop : ∀ (d c : Nat) (to' : Nat → Int32), c + d = 4 → (∀ j, j < z → ∀ e, e < 4 → to' (4 * j + e) = nI (if j = a ∧ e < c then T a e + T b e else T j e)) → K (nI c) (nI z) to' ma me := by
    intro d
    induction d with
    | zero =>
      intro c to' hc hto
      have : c = 4 := by omega
      subst this
      apply hK
      unfold vcPo_join_2
      obtain ⟨pa, -⟩ := hp a (by omega)
      obtain ⟨pb', -⟩ := hp b hb
      have hx : ∀ x : Nat, x < 2147483648 → ¬ nI x < 0 := fun x hx => nI_pos (by omega)
      simp (disch := omega) only [li_0, li_1, li_2, li_3, li_4, li_8, li_16, li_20, li_24, li_40, li_63, li_64, li_255, li_256, li_576, nI_add, pk_mul, nz_neg, nz_sub, nz_cl, nz_le, nz_lt, nz_eq, nz_in, nz_div, true_and, forall_eq, pa, pb']
      refine ⟨fun _ => ?_, fun q => absurd (Nat.le_refl _) q⟩
      refine sp_Po_meanOf (z := z) (T := fun j c => if j = a then T a c + T b c else T j c) (W := fun j => if j = a then W a + W b else W j) hz (by omega) (fun j hj => ⟨?_, fun e he => ?_⟩) ?_ ?_ ?_
      · simp only [upd]
        by_cases c : j = a
        · rw [if_pos c, if_pos c]
        · rw [if_neg c, if_neg c]; exact (hp j hj).1
      · rw [hto j hj e he]
        by_cases c : j = a
        · simp only [c, he, and_self, if_true]
        · simp only [c, false_and, if_false]
      · simp only [if_true]; exact hW
      · intro c hc
        simp only [if_true]; exact hT c hc
      · simp only [if_true]
        rw [show z - b - 1 = z - (b + 1) by omega]
        try simp (disch := omega) only [li_0, li_1, li_2, li_3, li_4, li_8, li_16, li_20, li_24, li_40, li_63, li_64, li_255, li_256, li_576, nI_add, pk_mul, nz_neg, nz_sub, nz_cl, nz_le, nz_lt, nz_eq, nz_in, nz_div, true_and, forall_eq]
        simp only [Nat.not_lt_zero, not_false_eq_true, true_and]
        refine ⟨by omega, by omega, by omega, by omega, by omega, by omega, ?_⟩
        refine h _ _ _ (fun j hj => ⟨?_, fun e he => ?_⟩) (fun j hj => ?_)
        · try dsimp only
          by_cases c : j < b
          · rw [pk_cpy_out (by omega)]
            simp only [upd, if_pos c]
            by_cases c2 : j = a
            · rw [if_pos c2, if_pos c2]
            · rw [if_neg c2, if_neg c2]; exact (hp j (by omega)).1
          · rw [pk_cpy_in (by omega) (by omega), show b + 1 + (j - b) = j + 1 by omega, pk_un (by omega), if_neg (show ¬ j = a by omega), if_neg c]
            exact (hp (j + 1) (by omega)).1
        · try dsimp only
          by_cases c : j < b
          · rw [pk_cpy_out (by omega), hto j (by omega) e he, if_pos c]
            by_cases c2 : j = a
            · rw [if_pos ⟨c2, he⟩, if_pos c2]
            · rw [if_neg (by omega), if_neg c2]
          · rw [pk_cpy_in (by omega) (by omega), show (b + 1) * 4 + (4 * j + e - b * 4) = 4 * (j + 1) + e by omega, hto (j + 1) (by omega) e he, if_neg (by omega), if_neg (show ¬ j = a by omega), if_neg c]
        · by_cases c : j < b
          · rw [pk_cpy_out (by omega)]
            simp only [upd, if_pos c]
            by_cases c2 : j = a
            · rw [if_pos c2, if_pos c2]
            · rw [if_neg c2, if_neg c2]; exact h2 j (by omega)
          · rw [pk_cpy_in (by omega) (by omega), show b + 1 + (j - b) = j + 1 by omega, pk_un (by omega), if_neg (show ¬ j = a by omega), if_neg c]
            exact h2 (j + 1) (by omega)
    | succ d ih =>
      intro c to' hc hto
      apply hK
      unfold vcPo_join_2
      have q1 := hto a (by omega) c (by omega)
      have q2 := hto b hb c (by omega)
      rw [if_neg (by omega)] at q1 q2
      simp (disch := omega) only [li_0, li_1, li_2, li_3, li_4, li_8, li_16, li_20, li_24, li_40, li_63, li_64, li_255, li_256, li_576, nI_add, pk_mul, nz_neg, nz_sub, nz_cl, nz_le, nz_lt, nz_eq, nz_in, nz_div, true_and, forall_eq, show a * 4 + c = 4 * a + c by omega, show b * 4 + c = 4 * b + c by omega, q1, q2]
      refine ⟨fun q => by omega, fun _ => ih (c + 1) _ (by omega) (fun j hj e he => ?_)⟩
      simp only [upd]
      by_cases c2 : 4 * j + e = 4 * a + c
      · have c3 : j = a := by omega
        have c4 : e = c := by omega
        rw [if_pos c2, if_pos (by omega), c4]
      · rw [if_neg c2, hto j hj e he]
        by_cases c3 : j = a ∧ e < c
        · rw [if_pos c3, if_pos (by omega)]
        · rw [if_neg c3, if_neg (by omega)]
  refine loop 4 0 to rfl (fun j hj e he => ?_)
  rw [if_neg (by omega)]
  exact (hp j hj).2 e he
theorem sp_Po_cheapest {z : Nat} {to ma me : Nat → Int32} {T : Nat → Nat → Nat} {W Mc : Nat → Nat} {post : Int32 → (Nat → Int32) → (Nat → Int32) → (Nat → Int32) → Prop} (hz : z ≤ 40) (hz2 : 2 ≤ z) (hp : plS z T W to ma) (hW : ∀ j, j < z → 0 < W j ∧ W j ≤ 576)
    (h2 : ∀ j, j < z → Mc j < 4294967296 ∧ me j = nI (Mc j))
    (h : wpPo_join 256 64 64 (nI z) to ma me (nI (jbest z (cst W Mc) / 64)) (nI (jbest z (cst W Mc) % 64)) post) : wpPo_joinCheapestPair 256 64 64 (nI z) to ma me post := by
  unfold wpPo_joinCheapestPair
  intro K11 K26 h11 h26
  generalize hf : jf z (cst W Mc) = f
  have hat : ∀ a b, a < b → b < z → f (a * 64 + b) = cst W Mc a b := fun a b q1 q2 => by rw [← hf]; exact jf_at q1 q2 (by omega)
  have hno : ∀ i, ¬ (i / 64 < i % 64 ∧ i % 64 < z) → f i = 1099511627776 := fun i q => by rw [← hf]; exact jf_no q
  have outer : ∀ (d one : Nat), one + d = z → (jno f (one * 64 + one + 1) → K11 0 1 9223372036854775807 (nI one) (nI z) to ma me) ∧ (∀ best, jso f (one * 64 + one + 1) best → K11 (nI (best / 64)) (nI (best % 64)) (lN (f best)) (nI one) (nI z) to ma me) := by
    intro d
    induction d with
    | zero =>
      intro one hone
      have : one = z := by omega
      subst this
      refine ⟨fun q => ?_, fun best q => ?_⟩
      · exfalso
        have e := q 1 (by omega)
        have e2 := hat 0 1 (by omega) (by omega)
        have e3 := cst_big (Mc := Mc) (hW 0 (by omega)).2 (hW 1 (by omega)).2
        rw [show 0 * 64 + 1 = 1 by omega] at e2
        omega
      · apply h11
        unfold vcPo_joinCheapestPair_11
        refine ⟨fun _ => ?_, fun q => absurd (nI_le (Nat.le_refl _) (by omega)) q⟩
        have e : jbest one (cst W Mc) = best := jbest_of (by rw [hf]; exact q) (by omega) (by omega)
        rw [e] at h
        exact h
    | succ d ih =>
      intro one hone
      obtain ⟨ih1, ih2⟩ := ih (one + 1) (by omega)
      have inner : ∀ (e other : Nat), other + e = z → one < other → (jno f (one * 64 + other) → K26 0 1 9223372036854775807 (nI one) (nI other) (nI z) to ma me) ∧ (∀ best, jso f (one * 64 + other) best → K26 (nI (best / 64)) (nI (best % 64)) (lN (f best)) (nI one) (nI other) (nI z) to ma me) := by
        intro e
        induction e with
        | zero =>
          intro other ho hoo
          have : other = z := by omega
          subst this
          have hx : ∀ j, one * 64 + other ≤ j → j < (one + 1) * 64 + (one + 1) + 1 → f j = 1099511627776 := fun j j1 j2 => hno j (by omega)
          refine ⟨fun q => ?_, fun best q => ?_⟩
          · apply h26
            unfold vcPo_joinCheapestPair_26
            refine ⟨fun _ => ?_, fun q => absurd (nI_le (Nat.le_refl _) (by omega)) q⟩
            rw [nI_1]
            exact ih1 (jno_x q hx)
          · apply h26
            unfold vcPo_joinCheapestPair_26
            refine ⟨fun _ => ?_, fun q => absurd (nI_le (Nat.le_refl _) (by omega)) q⟩
            rw [nI_1]
            exact ih2 best (jso_x q (by omega) hx)
        | succ e ihe =>
          intro other ho hoo
          obtain ⟨ihe1, ihe2⟩ := ihe (other + 1) (by omega) (by omega)
          have hc := hat one other hoo (by omega)
          have hcb := cst_big (Mc := Mc) (hW one (by omega)).2 (hW other (by omega)).2
          have hc1 : f (one * 64 + other) < 1099511627776 := by rw [hc]; exact hcb
          refine ⟨fun q => ?_, fun best q => ?_⟩
          · apply h26
            unfold vcPo_joinCheapestPair_26 vcPo_joinCheapestPair_61
            refine ⟨fun q => absurd q (nI_ge (by omega) (by omega)), fun _ => ?_⟩
            refine sp_Po_cost (W := W) (Mc := Mc) (z := z) (by omega) (by omega) (by omega) (fun j hj => ⟨(hp j hj).1, hW j hj⟩) h2 ?_
            rw [show (9223372036854775807 : Int64) = lN 9223372036854775807 from rfl]
            simp (disch := omega) only [li_0, li_1, li_2, li_3, li_4, li_8, li_16, li_20, li_24, li_40, li_63, li_64, li_255, li_256, li_576, nI_add, pk_mul, nz_neg, nz_sub, nz_cl, nz_le, nz_lt, nz_eq, nz_in, nz_div, true_and, forall_eq, lj_0, lj_1, lj_2, nz_l, lN_add, lN_mul, nz_lsub, nz_ldiv, nz_lle, nz_llt, nz_leq, lN_i, lc_ge, lc_le, lc_gt, lc_lt, lc_eq]
            refine ⟨fun q2 => by omega, fun _ => ?_⟩
            have q3 := ihe2 (one * 64 + other) (jno_s (i := one * 64 + other) q hc1)
            rw [hc, show (one * 64 + other) / 64 = one by omega, show (one * 64 + other) % 64 = other by omega] at q3
            exact q3
          · have hbv : best / 64 < best % 64 ∧ best % 64 < z := jso_v (i := one * 64 + other) (by rw [hf]; exact q)
            have hfb := q.2
            apply h26
            unfold vcPo_joinCheapestPair_26 vcPo_joinCheapestPair_61
            refine ⟨fun q => absurd q (nI_ge (by omega) (by omega)), fun _ => ?_⟩
            refine sp_Po_cost (W := W) (Mc := Mc) (z := z) (by omega) (by omega) (by omega) (fun j hj => ⟨(hp j hj).1, hW j hj⟩) h2 ?_
            simp (disch := omega) only [li_0, li_1, li_2, li_3, li_4, li_8, li_16, li_20, li_24, li_40, li_63, li_64, li_255, li_256, li_576, nI_add, pk_mul, nz_neg, nz_sub, nz_cl, nz_le, nz_lt, nz_eq, nz_in, nz_div, true_and, forall_eq, lj_0, lj_1, lj_2, nz_l, lN_add, lN_mul, nz_lsub, nz_ldiv, nz_lle, nz_llt, nz_leq, lN_i, lc_ge, lc_le, lc_gt, lc_lt, lc_eq]
            refine ⟨fun q2 => ihe2 best ⟨fstMin_s2 (k := one * 64 + other) q.1 (by rw [hc]; omega), hfb⟩, fun q2 => ?_⟩
            have q3 := ihe2 (one * 64 + other) ⟨fstMin_s1 (k := one * 64 + other) q.1 (by rw [hc]; omega), hc1⟩
            rw [hc, show (one * 64 + other) / 64 = one by omega, show (one * 64 + other) % 64 = other by omega] at q3
            exact q3
      obtain ⟨in1, in2⟩ := inner (z - (one + 1)) (one + 1) (by omega) (by omega)
      refine ⟨fun q => ?_, fun best q => ?_⟩
      · apply h11
        unfold vcPo_joinCheapestPair_11
        refine ⟨fun q => absurd q (nI_ge (by omega) (by omega)), fun _ => ?_⟩
        simp (disch := omega) only [li_0, li_1, li_2, li_3, li_4, li_8, li_16, li_20, li_24, li_40, li_63, li_64, li_255, li_256, li_576, nI_add, pk_mul, nz_neg, nz_sub, nz_cl, nz_le, nz_lt, nz_eq, nz_in, nz_div, true_and, forall_eq]
        exact in1 q
      · apply h11
        unfold vcPo_joinCheapestPair_11
        refine ⟨fun q => absurd q (nI_ge (by omega) (by omega)), fun _ => ?_⟩
        simp (disch := omega) only [li_0, li_1, li_2, li_3, li_4, li_8, li_16, li_20, li_24, li_40, li_63, li_64, li_255, li_256, li_576, nI_add, pk_mul, nz_neg, nz_sub, nz_cl, nz_le, nz_lt, nz_eq, nz_in, nz_div, true_and, forall_eq]
        exact in2 best q
  have := (outer z 0 (by omega)).1 (fun j hj => hno j (by omega))
  exact this
