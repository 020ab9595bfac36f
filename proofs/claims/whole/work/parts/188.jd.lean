/-! joining down, in groups -/
def fil (D : Nat) (G : Nat → Nat) (z : Nat) : Prop := (∀ k, k < D → G k < z) ∧ ∀ j, j < z → ∃ k, k < D ∧ G k = j
theorem fil_W {D z j : Nat} {G M : Nat → Nat} (h : fil D G z) (hM : ∀ k, k < D → 0 < M k) (hMt : tot D M ≤ 576) (hj : j < z) : 0 < sm D (pb G j) M ∧ sm D (pb G j) M ≤ 576 := by
  obtain ⟨k, k1, k2⟩ := h.2 j hj
  have := sm_ge (f := M) k1 (pb_t.mpr k2)
  have := hM k k1
  exact ⟨by omega, Nat.le_trans (sm_all _ _ _) hMt⟩
theorem jnG_a {D a b z : Nat} {G : Nat → Nat} (hab : a < b) : ∀ k, k < D → pb (jnG G a b) a k = (pb G a k || pb G b k) := by
  intro k hk
  unfold pb jnG
  by_cases c1 : G k = b
  · simp [c1]
  · by_cases c2 : b < G k
    · rw [if_neg c1, if_pos c2, decide_eq_false c1, Bool.or_false]
      apply decide_eq_decide.mpr
      omega
    · rw [if_neg c1, if_neg c2, decide_eq_false c1, Bool.or_false]
theorem jnG_o {D a b j : Nat} {G : Nat → Nat} (hab : a < b) (hj : j ≠ a) : ∀ k, k < D → pb (jnG G a b) j k = pb G (if j < b then j else j + 1) k := by
  intro k hk
  unfold pb jnG
  apply decide_eq_decide.mpr
  by_cases c1 : G k = b
  · rw [if_pos c1]
    split <;> omega
  · rw [if_neg c1]
    by_cases c2 : b < G k
    · rw [if_pos c2]
      split <;> omega
    · rw [if_neg c2]
      split <;> omega
theorem jnG_sm {D a b : Nat} {G f : Nat → Nat} (hab : a < b) : sm D (pb (jnG G a b) a) f = sm D (pb G a) f + sm D (pb G b) f :=
  sm_or (jnG_a (z := 0) hab) (fun k hk q => decide_eq_false (by have := pb_t.mp q; omega))
theorem jnG_fil {D a b z : Nat} {G : Nat → Nat} (h : fil D G z) (hab : a < b) (hb : b < z) : fil D (jnG G a b) (z - 1) := by
  refine ⟨fun k hk => ?_, fun j hj => ?_⟩
  · have := h.1 k hk
    unfold jnG
    split
    · omega
    · split <;> omega
  · obtain ⟨k, k1, k2⟩ := h.2 (if j < b then j else j + 1) (by split <;> omega)
    refine ⟨k, k1, ?_⟩
    unfold jnG
    rw [k2]
    by_cases c : j < b
    · rw [if_pos c, if_neg (by omega), if_neg (by omega)]
    · rw [if_neg c, if_neg (by omega), if_pos (by omega)]
      omega
theorem jcost_01 {D z : Nat} {C M G : Nat → Nat} (h : fil D G z) (hM : ∀ k, k < D → 0 < M k) (hMt : tot D M ≤ 576) (hz : 2 ≤ z) : jcost D C M G 0 1 < 1099511627776 := cst_big (fil_W h hM hMt (by omega)).2 (fil_W h hM hMt (by omega)).2
theorem jG_fil {D z0 : Nat} {C M G0 : Nat → Nat} (h : fil D G0 z0) (hM : ∀ k, k < D → 0 < M k) (hMt : tot D M ≤ 576) (hz : z0 ≤ 40) : ∀ n, n < z0 → fil D (jG D C M z0 G0 n) (z0 - n) := by
  intro n
  induction n with
  | zero => intro _; exact h
  | succ n ih =>
    intro hn
    have hf := ih (by omega)
    have hb := jbest_ok (z := z0 - n) (by omega) (by omega) (jcost_01 (C := C) hf hM hMt (by omega))
    exact jnG_fil hf hb.1 hb.2
def joOK (D : Nat) (C M G : Nat → Nat) (z : Nat) (to ma : Nat → Int32) : Prop := plS z (fun j => tsum D C M (pb G j)) (fun j => sm D (pb G j) M) to ma
theorem sp_Po_joinDownTo {D z0 wanted : Nat} {to ma me : Nat → Int32} {C M G0 : Nat → Nat} {post : Int32 → (Nat → Int32) → (Nat → Int32) → (Nat → Int32) → Prop} (hz : z0 ≤ 40) (hz0 : 0 < z0) (hw0 : 0 < wanted) (hw : wanted ≤ 64) (hf : fil D G0 z0) (hM : ∀ k, k < D → 0 < M k) (hMt : tot D M ≤ 576) (hp : joOK D C M G0 z0 to ma)
    (h : ∀ to' ma' me', joOK D C M (jG D C M z0 G0 (z0 - wanted)) (z0 - (z0 - wanted)) to' ma' → post (nI (z0 - (z0 - wanted))) to' ma' me') : wpPo_joinDownTo 256 64 64 (nI z0) to ma me (nI wanted) post := by
  unfold wpPo_joinDownTo
  intro K2 K32 h2 h32
  have loop : ∀ (d n : Nat) (to ma me : Nat → Int32), n + d = z0 - wanted → joOK D C M (jG D C M z0 G0 n) (z0 - n) to ma → (∀ j, j < z0 - n → me j = nI (mcol D C M (pb (jG D C M z0 G0 n) j))) → K32 (nI (z0 - n)) (nI (z0 - n)) to ma me := by
    intro d
    induction d with
    | zero =>
      intro n to ma me hn hp hme
      have : n = z0 - wanted := by omega
      subst this
      apply h32
      unfold vcPo_joinDownTo_32 vcPo_joinDownTo_52
      simp (disch := omega) only [li_0, li_1, li_2, li_3, li_4, li_8, li_16, li_20, li_24, li_40, li_63, li_64, li_255, li_256, li_576, nI_add, pk_mul, nz_neg, nz_sub, nz_cl, nz_le, nz_lt, nz_eq, nz_in, nz_div, true_and, forall_eq]
      exact ⟨fun _ => h _ _ _ hp, fun q => by omega⟩
    | succ d ih =>
      intro n to ma me hn hp hme
      have hfn := jG_fil (C := C) hf hM hMt hz n (by omega)
      have hb := jbest_ok (z := z0 - n) (by omega) (by omega) (jcost_01 (C := C) hfn hM hMt (by omega))
      have hnext : jG D C M z0 G0 (n + 1) = jnG (jG D C M z0 G0 n) (jbest (z0 - n) (jcost D C M (jG D C M z0 G0 n)) / 64) (jbest (z0 - n) (jcost D C M (jG D C M z0 G0 n)) % 64) := rfl
      apply h32
      unfold vcPo_joinDownTo_32 vcPo_joinDownTo_52
      simp (disch := omega) only [li_0, li_1, li_2, li_3, li_4, li_8, li_16, li_20, li_24, li_40, li_63, li_64, li_255, li_256, li_576, nI_add, pk_mul, nz_neg, nz_sub, nz_cl, nz_le, nz_lt, nz_eq, nz_in, nz_div, true_and, forall_eq]
      refine ⟨fun q => by omega, fun _ => ⟨fun q => by omega, fun _ => ?_⟩⟩
      refine sp_Po_cheapest (by omega) (by omega) hp (fun j hj => fil_W hfn hM hMt hj) (fun j hj => ⟨mcol_lt, hme j hj⟩) ?_
      have hjc : cst (fun j => sm D (pb (jG D C M z0 G0 n) j) M) (fun j => mcol D C M (pb (jG D C M z0 G0 n) j)) = jcost D C M (jG D C M z0 G0 n) := rfl
      rw [hjc]
      generalize jbest (z0 - n) (jcost D C M (jG D C M z0 G0 n)) = i at hb hnext
      generalize jG D C M z0 G0 n = G at *
      have hb1 : i / 64 < i % 64 := hb.1
      have hb2 := hb.2
      generalize i / 64 = a at *
      generalize i % 64 = b at *
      have hsum : sm D (pb G a) M + sm D (pb G b) M ≤ 576 := by
        rw [← jnG_sm hb1]
        exact Nat.le_trans (sm_all _ _ _) hMt
      refine sp_Po_join (by omega) hb1 hb2 hp hsum (fun c hc => ?_) (fun j hj => hme j hj) (fun to' ma' me' hp' hme' => ?_)
      · have x1 : tsum D C M (pb G a) c ≤ 255 * sm D (pb G a) M := tsum_le
        have x2 : tsum D C M (pb G b) c ≤ 255 * sm D (pb G b) M := tsum_le
        try dsimp only
        omega
      · have := ih (n + 1) to' ma' me' (by omega) ?_ ?_
        · rw [show z0 - (n + 1) = z0 - n - 1 by omega] at this
          exact this
        · rw [hnext, show z0 - (n + 1) = z0 - n - 1 by omega]
          refine plS_cg hp' (fun j hj => ?_) (fun j hj c hc => ?_)
          · try dsimp only
            by_cases e : j = a
            · rw [if_pos e, e, jnG_sm hb1]
            · rw [if_neg e, sm_congr (jnG_o hb1 e) (fun _ _ _ => rfl)]
          · try dsimp only
            by_cases e : j = a
            · rw [if_pos e, e]
              exact jnG_sm hb1
            · rw [if_neg e]
              exact sm_congr (jnG_o hb1 e) (fun _ _ _ => rfl)
        · intro j hj
          rw [hme' j (by omega), hnext]
          by_cases e : j = a
          · rw [if_pos e, e]
            unfold mcol
            rw [jnG_sm hb1, show tsum D C M (pb (jnG G a b) a) = fun c => tsum D C M (pb G a) c + tsum D C M (pb G b) c from funext (fun c => jnG_sm hb1)]
          · rw [if_neg e, mcol_cg (jnG_o hb1 e)]
  have fill : ∀ (d k : Nat) (me : Nat → Int32), k + d = z0 → (∀ j, j < k → me j = nI (mcol D C M (pb G0 j))) → K2 (nI k) (nI z0) to ma me := by
    intro d
    induction d with
    | zero =>
      intro k me hk hme
      have : k = z0 := by omega
      subst this
      apply h2
      unfold vcPo_joinDownTo_2
      exact ⟨fun _ => loop (k - wanted) 0 to ma me (by omega) hp hme, fun q => absurd (nI_le (Nat.le_refl _) (by omega)) q⟩
    | succ d ih =>
      intro k me hk hme
      apply h2
      unfold vcPo_joinDownTo_2
      refine ⟨fun q => absurd q (nI_ge (by omega) (by omega)), fun _ => ?_⟩
      refine sp_Po_meanOf (z := z0) (by omega) (by omega) hp (fil_W hf hM hMt (by omega)).2 (fun c _ => tsum_le) ?_
      simp (disch := omega) only [li_0, li_1, li_2, li_3, li_4, li_8, li_16, li_20, li_24, li_40, li_63, li_64, li_255, li_256, li_576, nI_add, pk_mul, nz_neg, nz_sub, nz_cl, nz_le, nz_lt, nz_eq, nz_in, nz_div, true_and, forall_eq]
      refine ih (k + 1) _ (by omega) (fun j hj => ?_)
      by_cases e : j = k
      · rw [e, pk_us]; rfl
      · rw [pk_un e]; exact hme j (by omega)
  exact fill z0 0 me (by omega) (fun j hj => absurd hj (Nat.not_lt_zero _))
