/-! boxes: what they are, without a program -/
/-- the place of the least, of these the first -/
def fmin : Nat → (Nat → Nat) → Nat
  | 0, _ => 0
  | n + 1, f => if n = 0 then 0 else if f n < f (fmin n f) then n else fmin n f
theorem fmin_ok {z : Nat} (hz : 0 < z) (f : Nat → Nat) : fstMin z f (fmin z f) := by
  induction z with
  | zero => omega
  | succ n ih =>
    unfold fmin
    by_cases c : n = 0
    · subst c
      rw [if_pos rfl]
      exact ⟨by omega, fun j hj => by rw [show j = 0 by omega]; exact Nat.le_refl _, fun j hj => absurd hj (Nat.not_lt_zero _)⟩
    · rw [if_neg c]
      obtain ⟨h1, h2, h3⟩ := ih (by omega)
      by_cases c2 : f n < f (fmin n f)
      · rw [if_pos c2]
        refine ⟨by omega, fun j hj => ?_, fun j hj => ?_⟩
        · by_cases e : j = n
          · rw [e]; exact Nat.le_refl _
          · have := h2 j (by omega); omega
        · have := h2 j hj; omega
      · rw [if_neg c2]
        refine ⟨by omega, fun j hj => ?_, h3⟩
        by_cases e : j = n
        · rw [e]; omega
        · exact h2 j (by omega)
theorem fmin_eq {z k : Nat} {f : Nat → Nat} (h : fstMin z f k) : fmin z f = k := fstMin_one (fmin_ok (by have := h.1; omega) f) h
theorem fmin_lt {z : Nat} (hz : 0 < z) (f : Nat → Nat) : fmin z f < z := (fmin_ok hz f).1
theorem fmin_congr {z : Nat} {f g : Nat → Nat} (h : ∀ j, j < z → f j = g j) : fmin z f = fmin z g := by
  rcases Nat.eq_zero_or_pos z with e | hz
  · subst e; rfl
  · obtain ⟨a, b, c⟩ := fmin_ok hz g
    refine fmin_eq ⟨a, fun j hj => ?_, fun j hj => ?_⟩
    · rw [h j hj, h _ a]; exact b j hj
    · rw [h j (by omega), h _ a]; exact c j hj
/-- the greatest and the least of f where p -/
def hgOf : Nat → (Nat → Bool) → (Nat → Nat) → Nat
  | 0, _, _ => 0
  | n + 1, p, f => if p n = true ∧ hgOf n p f < f n then f n else hgOf n p f
def lwOf : Nat → (Nat → Bool) → (Nat → Nat) → Nat
  | 0, _, _ => 255
  | n + 1, p, f => if p n = true ∧ f n < lwOf n p f then f n else lwOf n p f
theorem hgOf_ge {n : Nat} {p : Nat → Bool} {f : Nat → Nat} : ∀ k, k < n → p k = true → f k ≤ hgOf n p f := by
  induction n with
  | zero => intro k hk; omega
  | succ n ih =>
    intro k hk hp
    unfold hgOf
    by_cases e : k = n
    · subst e
      split
      · exact Nat.le_refl _
      · next h => rcases Nat.lt_or_ge (hgOf k p f) (f k) with q | q
                  · exact absurd ⟨hp, q⟩ h
                  · exact q
    · have := ih k (by omega) hp
      split <;> omega
theorem hgOf_at {n : Nat} {p : Nat → Bool} {f : Nat → Nat} : hgOf n p f = 0 ∨ ∃ k, k < n ∧ p k = true ∧ f k = hgOf n p f := by
  induction n with
  | zero => exact Or.inl rfl
  | succ n ih =>
    unfold hgOf
    split
    · next h => exact Or.inr ⟨n, by omega, h.1, rfl⟩
    · rcases ih with h | ⟨k, h1, h2, h3⟩
      · exact Or.inl h
      · exact Or.inr ⟨k, by omega, h2, h3⟩
theorem lwOf_le {n : Nat} {p : Nat → Bool} {f : Nat → Nat} : ∀ k, k < n → p k = true → lwOf n p f ≤ f k := by
  induction n with
  | zero => intro k hk; omega
  | succ n ih =>
    intro k hk hp
    unfold lwOf
    by_cases e : k = n
    · subst e
      split
      · exact Nat.le_refl _
      · next h => rcases Nat.lt_or_ge (f k) (lwOf k p f) with q | q
                  · exact absurd ⟨hp, q⟩ h
                  · exact q
    · have := ih k (by omega) hp
      split <;> omega
theorem lwOf_at {n : Nat} {p : Nat → Bool} {f : Nat → Nat} : lwOf n p f = 255 ∨ ∃ k, k < n ∧ p k = true ∧ f k = lwOf n p f := by
  induction n with
  | zero => exact Or.inl rfl
  | succ n ih =>
    unfold lwOf
    split
    · next h => exact Or.inr ⟨n, by omega, h.1, rfl⟩
    · rcases ih with h | ⟨k, h1, h2, h3⟩
      · exact Or.inl h
      · exact Or.inr ⟨k, by omega, h2, h3⟩
/-- x is the greatest: known by this -/
theorem hgOf_is {n x k : Nat} {p : Nat → Bool} {f : Nat → Nat} (hk : k < n) (hp : p k = true) (h : ∀ k, k < n → p k = true → f k ≤ x) (h2 : x = 0 ∨ ∃ k, k < n ∧ p k = true ∧ f k = x) : hgOf n p f = x := by
  have a : hgOf n p f ≤ x := by
    rcases hgOf_at (n := n) (p := p) (f := f) with e | ⟨k, h1, h2, h3⟩
    · omega
    · rw [← h3]; exact h k h1 h2
  have b : x ≤ hgOf n p f := by
    rcases h2 with e | ⟨k, h1, h2, h3⟩
    · omega
    · rw [← h3]; exact hgOf_ge k h1 h2
  omega
theorem lwOf_is {n x k : Nat} {p : Nat → Bool} {f : Nat → Nat} (hk : k < n) (hp : p k = true) (hf : ∀ k, k < n → f k ≤ 255) (h : ∀ k, k < n → p k = true → x ≤ f k) (h2 : x = 255 ∨ ∃ k, k < n ∧ p k = true ∧ f k = x) : lwOf n p f = x := by
  have l : lwOf n p f ≤ 255 := Nat.le_trans (lwOf_le k hk hp) (hf k hk)
  have a : lwOf n p f ≤ x := by
    rcases h2 with e | ⟨k, h1, h2, h3⟩
    · omega
    · rw [← h3]; exact lwOf_le k h1 h2
  have b : x ≤ lwOf n p f := by
    rcases lwOf_at (n := n) (p := p) (f := f) with e | ⟨k, h1, h2, h3⟩
    · have := h k hk hp
      have := hf k hk
      omega
    · rw [← h3]; exact h k h1 h2
  omega
theorem hgOf_cg {n : Nat} {p q : Nat → Bool} {f : Nat → Nat} (h : ∀ k, k < n → p k = q k) : hgOf n p f = hgOf n q f := by
  induction n with
  | zero => rfl
  | succ n ih =>
    unfold hgOf
    rw [ih (fun k hk => h k (by omega)), h n (by omega)]
theorem lwOf_cg {n : Nat} {p q : Nat → Bool} {f : Nat → Nat} (h : ∀ k, k < n → p k = q k) : lwOf n p f = lwOf n q f := by
  induction n with
  | zero => rfl
  | succ n ih =>
    unfold lwOf
    rw [ih (fun k hk => h k (by omega)), h n (by omega)]
def spr (D : Nat) (C : Nat → Nat) (p : Nat → Bool) (c : Nat) : Nat := hgOf D p (fun k => lev (C k) c) - lwOf D p (fun k => lev (C k) c)
def wch (D : Nat) (C : Nat → Nat) (p : Nat → Bool) : Nat := fmin 4 (fun c => 255 - spr D C p c)
def bsp (D : Nat) (C : Nat → Nat) (p : Nat → Bool) : Nat := spr D C p (wch D C p)
theorem spr_cg {D c : Nat} {C : Nat → Nat} {p q : Nat → Bool} (h : ∀ k, k < D → p k = q k) : spr D C p c = spr D C q c := by
  unfold spr
  rw [hgOf_cg h, lwOf_cg h]
theorem wch_cg {D : Nat} {C : Nat → Nat} {p q : Nat → Bool} (h : ∀ k, k < D → p k = q k) : wch D C p = wch D C q := by
  unfold wch
  exact fmin_congr (fun c _ => by rw [spr_cg h])
theorem bsp_cg {D : Nat} {C : Nat → Nat} {p q : Nat → Bool} (h : ∀ k, k < D → p k = q k) : bsp D C p = bsp D C q := by
  unfold bsp
  rw [wch_cg h, spr_cg h]
theorem hgOf_255 {D c : Nat} {C : Nat → Nat} {p : Nat → Bool} : hgOf D p (fun k => lev (C k) c) ≤ 255 := by
  rcases hgOf_at (n := D) (p := p) (f := fun k => lev (C k) c) with e | ⟨k, -, -, e⟩
  · omega
  · have := lev_lt (C k) c
    try dsimp only at e
    omega
theorem spr_le {D c : Nat} {C : Nat → Nat} {p : Nat → Bool} : spr D C p c ≤ 255 := by
  have := hgOf_255 (D := D) (C := C) (p := p) (c := c)
  unfold spr
  omega
theorem wch_lt {D : Nat} {C : Nat → Nat} {p : Nat → Bool} : wch D C p < 4 := fmin_lt (by decide) _
theorem spr_bsp {D c : Nat} {C : Nat → Nat} {p : Nat → Bool} (hc : c < 4) : spr D C p c ≤ bsp D C p := by
  have := (fmin_ok (z := 4) (by decide) (fun c => 255 - spr D C p c)).2.1 c hc
  have a := spr_le (D := D) (c := c) (C := C) (p := p)
  unfold bsp wch
  try dsimp only at this
  omega
/-- box b of a grouping -/
def pb (G : Nat → Nat) (b : Nat) : Nat → Bool := fun k => decide (G k = b)
theorem pb_t {G : Nat → Nat} {b k : Nat} : pb G b k = true ↔ G k = b := decide_eq_true_iff
def bky (D : Nat) (C M G : Nat → Nat) (b : Nat) : Nat := 300000 - (bsp D C (pb G b) * 1024 + sm D (pb G b) M)
def bbox (D : Nat) (C M G : Nat → Nat) (n : Nat) : Nat := fmin n (bky D C M G)
def kyc (C : Nat → Nat) (ch k : Nat) : Nat := lev (C k) ch * 1024 + k
def lsum (D : Nat) (C M G : Nat → Nat) (b ch k : Nat) : Nat := sm D (fun j => decide (G j = b ∧ kyc C ch j < kyc C ch k)) M
def mvs (D : Nat) (C M G : Nat → Nat) (b ch k : Nat) : Prop :=
  G k = b ∧ (∃ j, j < D ∧ G j = b ∧ kyc C ch j < kyc C ch k) ∧ ((∀ j, j < D → G j = b → kyc C ch j ≤ kyc C ch k) ∨ sm D (pb G b) M ≤ 2 * lsum D C M G b ch k)
noncomputable def cutG (D : Nat) (C M G : Nat → Nat) (n : Nat) : Nat → Nat := fun k =>
  if dc (mvs D C M G (bbox D C M G n) (wch D C (pb G (bbox D C M G n))) k) = true then n else G k
/-- after n cuts: n + 1 boxes -/
noncomputable def boxG (D : Nat) (C M : Nat → Nat) : Nat → Nat → Nat
  | 0 => fun _ => 0
  | n + 1 => cutG D C M (boxG D C M n) (n + 1)
theorem pb_cg {G G' : Nat → Nat} {D b : Nat} (h : ∀ k, k < D → G k = G' k) : ∀ k, k < D → pb G b k = pb G' b k := fun k hk => by unfold pb; rw [h k hk]
theorem bky_cg {D : Nat} {C M G G' : Nat → Nat} {b : Nat} (h : ∀ k, k < D → G k = G' k) : bky D C M G b = bky D C M G' b := by
  unfold bky
  rw [bsp_cg (pb_cg h), sm_congr (pb_cg h) (fun _ _ _ => rfl)]
/-- a box that is cut has two at least -/
theorem two_of {D n : Nat} {C M G : Nat → Nat} (hC : ∀ i j, i < j → j < D → C i < C j) (hB : ∀ k, k < D → C k < 4294967296) (hM : tot D M ≤ 576) (hn0 : 0 < n) (hn : n < D) (hG : ∀ k, k < D → G k < n) :
    ∃ i j, i < j ∧ j < D ∧ G i = bbox D C M G n ∧ G j = bbox D C M G n := by
  obtain ⟨i, j, h1, h2, h3⟩ := pigeon hn hG
  have hne : C i ≠ C j := by have := hC i j h1 h2; omega
  obtain ⟨c, hc, hl⟩ : ∃ c, c < 4 ∧ lev (C i) c ≠ lev (C j) c := by
    refine Classical.byContradiction (fun q => hne (lev_inj (hB i (by omega)) (hB j h2) (fun c hc => Classical.byContradiction (fun q2 => q ⟨c, hc, q2⟩))))
  have hs : 0 < spr D C (pb G (G i)) c := by
    have a1 := hgOf_ge (n := D) (p := pb G (G i)) (f := fun k => lev (C k) c) i (by omega) (pb_t.mpr rfl)
    have a2 := hgOf_ge (n := D) (p := pb G (G i)) (f := fun k => lev (C k) c) j h2 (pb_t.mpr h3.symm)
    have a3 := lwOf_le (n := D) (p := pb G (G i)) (f := fun k => lev (C k) c) i (by omega) (pb_t.mpr rfl)
    have a4 := lwOf_le (n := D) (p := pb G (G i)) (f := fun k => lev (C k) c) j h2 (pb_t.mpr h3.symm)
    try dsimp only at a1 a2 a3 a4
    unfold spr
    omega
  have hs2 := spr_bsp (D := D) (C := C) (p := pb G (G i)) hc
  have hm : bky D C M G (bbox D C M G n) ≤ bky D C M G (G i) := (fmin_ok hn0 (bky D C M G)).2.1 (G i) (hG i (by omega))
  have hw := Nat.le_trans (sm_all D (pb G (bbox D C M G n)) M) hM
  have hb2 : bsp D C (pb G (G i)) ≤ 255 := spr_le
  have hb3 : 0 < bsp D C (pb G (bbox D C M G n)) := by
    unfold bky at hm
    have : sm D (pb G (G i)) M ≤ 576 := Nat.le_trans (sm_all _ _ _) hM
    omega
  have hhi := hgOf_at (n := D) (p := pb G (bbox D C M G n)) (f := fun k => lev (C k) (wch D C (pb G (bbox D C M G n))))
  have hlo := lwOf_at (n := D) (p := pb G (bbox D C M G n)) (f := fun k => lev (C k) (wch D C (pb G (bbox D C M G n))))
  have hh := hgOf_255 (D := D) (C := C) (p := pb G (bbox D C M G n)) (c := wch D C (pb G (bbox D C M G n)))
  unfold bsp spr at hb3
  rcases hhi with e | ⟨a, a1, a2, a3⟩
  · omega
  rcases hlo with e | ⟨b, b1, b2, b3⟩
  · omega
  have hab : a ≠ b := by
    intro e
    subst e
    omega
  rcases Nat.lt_or_gt_of_ne hab with q | q
  · exact ⟨a, b, q, b1, pb_t.mp a2, pb_t.mp b2⟩
  · exact ⟨b, a, q, a1, pb_t.mp b2, pb_t.mp a2⟩
theorem kyc_inj {C : Nat → Nat} {ch i j : Nat} (hi : i < 1024) (hj : j < 1024) (h : kyc C ch i = kyc C ch j) : i = j := by
  unfold kyc at h
  omega
theorem cutG_lt {D n : Nat} {C M G : Nat → Nat} (hG : ∀ k, k < D → G k < n) : ∀ k, k < D → cutG D C M G n k < n + 1 := by
  intro k hk
  have := hG k hk
  unfold cutG
  split <;> omega
theorem boxG_lt {D : Nat} {C M : Nat → Nat} : ∀ n k, k < D → boxG D C M n k < n + 1 := by
  intro n
  induction n with
  | zero => intro k _; exact Nat.lt_succ_self 0
  | succ n ih => intro k hk; exact cutG_lt ih k hk
/-- boxes stay filled -/
theorem cutG_ne {D n : Nat} {C M G : Nat → Nat} (hD : D ≤ 576) (hC : ∀ i j, i < j → j < D → C i < C j) (hB : ∀ k, k < D → C k < 4294967296) (hM : tot D M ≤ 576) (hn0 : 0 < n) (hn : n < D) (hG : ∀ k, k < D → G k < n) (hne : ∀ b, b < n → ∃ k, k < D ∧ G k = b) :
    ∀ b, b < n + 1 → ∃ k, k < D ∧ cutG D C M G n k = b := by
  obtain ⟨i, j, h1, h2, h3, h4⟩ := two_of hC hB hM hn0 hn hG
  generalize hbb : bbox D C M G n = bb at h3 h4
  have hbn : bb < n := by rw [← h3]; exact hG i (by omega)
  generalize hch : wch D C (pb G bb) = ch
  have hcut : ∀ k, cutG D C M G n k = if dc (mvs D C M G bb ch k) = true then n else G k := by
    intro k
    unfold cutG
    rw [hbb, hch]
  -- the least and the greatest key of the box
  have hlo : ∃ k, k < D ∧ G k = bb ∧ ∀ q, q < D → G q = bb → kyc C ch k ≤ kyc C ch q := by
    obtain ⟨x, ⟨k, hk1, hk2, rfl⟩, hx2⟩ := pk_least (fun x => ∃ k, k < D ∧ G k = bb ∧ kyc C ch k = x) ⟨_, i, by omega, h3, rfl⟩
    refine ⟨k, hk1, hk2, fun q hq1 hq2 => ?_⟩
    rcases Nat.lt_or_ge (kyc C ch q) (kyc C ch k) with c | c
    · exact absurd ⟨q, hq1, hq2, rfl⟩ (hx2 _ c)
    · exact c
  have hhi : ∃ k, k < D ∧ G k = bb ∧ ∀ q, q < D → G q = bb → kyc C ch q ≤ kyc C ch k := by
    obtain ⟨x, ⟨k, hk1, hk2, hk3⟩, hx2⟩ := pk_least (fun x => ∃ k, k < D ∧ G k = bb ∧ 300000 - kyc C ch k = x) ⟨_, i, by omega, h3, rfl⟩
    have bd : ∀ q, q < D → kyc C ch q < 300000 := fun q hq => by
      have := lev_lt (C q) ch
      unfold kyc
      omega
    refine ⟨k, hk1, hk2, fun q hq1 hq2 => ?_⟩
    have := bd q hq1
    have := bd k hk1
    rcases Nat.lt_or_ge (kyc C ch k) (kyc C ch q) with c | c
    · exact absurd ⟨q, hq1, hq2, rfl⟩ (hx2 (300000 - kyc C ch q) (by omega))
    · exact c
  intro b hb
  by_cases e : b = n
  · subst e
    obtain ⟨k, k1, k2, k3⟩ := hhi
    have hm : mvs D C M G bb ch k → cutG D C M G b k = b := fun q => by rw [hcut, if_pos (dc_t q)]
    refine ⟨k, k1, hm ⟨k2, ?_, Or.inl k3⟩⟩
    have : ∃ q, q < D ∧ G q = bb ∧ q ≠ k := by
      by_cases c : i = k
      · exact ⟨j, h2, h4, by omega⟩
      · exact ⟨i, by omega, h3, c⟩
    obtain ⟨q, q1, q2, q3⟩ := this
    refine ⟨q, q1, q2, ?_⟩
    have := k3 q q1 q2
    rcases Nat.lt_or_ge (kyc C ch q) (kyc C ch k) with c | c
    · exact c
    · exact absurd (kyc_inj (by omega) (by omega) (Nat.le_antisymm this c)) q3
  · by_cases e2 : b = bb
    · subst e2
      obtain ⟨k, k1, k2, k3⟩ := hlo
      refine ⟨k, k1, ?_⟩
      rw [hcut, if_neg]
      · exact k2
      · rw [dc_iff]
        rintro ⟨-, ⟨q, q1, q2, q3⟩, -⟩
        have := k3 q q1 q2
        omega
    · obtain ⟨k, k1, k2⟩ := hne b (by omega)
      refine ⟨k, k1, ?_⟩
      rw [hcut, if_neg]
      · exact k2
      · rw [dc_iff]
        rintro ⟨a, -⟩
        omega
theorem boxG_ne {D : Nat} {C M : Nat → Nat} (hD : D ≤ 576) (hC : ∀ i j, i < j → j < D → C i < C j) (hB : ∀ k, k < D → C k < 4294967296) (hM : tot D M ≤ 576) : ∀ n, n < D → ∀ b, b < n + 1 → ∃ k, k < D ∧ boxG D C M n k = b := by
  intro n
  induction n with
  | zero => intro h b hb; exact ⟨0, h, by rw [show b = 0 by omega]; rfl⟩
  | succ n ih =>
    intro h
    exact cutG_ne hD hC hB hM (by omega) h (boxG_lt n) (ih (by omega))
