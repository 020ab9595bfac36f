/-! the model's boxes -/
theorem nz_m1 {a : Nat} (h : a < 2147483648) : (nI a ≤ -nI 1) = False := eq_false (nle_m1 h)
theorem sp_Md_spreadOf {nc ng D b c k0 : Nat} {a1 a2 a3 a4 a5 a6 a7 a8 : Int32} {cs gr : Nat → Int32} {C G : Nat → Nat} {post : Int32 → Prop} (hnc : nc < 2147483648) (hng : ng < 2147483648) (hD1 : 4 * D ≤ nc) (hD2 : D ≤ ng) (hc : c < 4) (hb : b < 576)
    (hC : chs cs D C) (hG : ∀ k, k < D → G k < 576 ∧ gr k = nI (G k)) (hk0 : k0 < D) (hg0 : G k0 = b) (h : post (nI (spr D C (pb G b) c))) : wpMd_spreadOf nc ng a1 a2 a3 (nI D) a4 a5 a6 a7 a8 cs gr (nI b) (nI c) post := by
  unfold wpMd_spreadOf
  intro K hK
  have loop : ∀ (d k lo hi : Nat), k + d = D → lo ≤ 255 → hi ≤ 255 → (∃ j, j < k ∧ G j = b ∧ lev (C j) c = lo) → (∃ j, j < k ∧ G j = b ∧ lev (C j) c = hi) → (∀ j, j < k → G j = b → lo ≤ lev (C j) c ∧ lev (C j) c ≤ hi) → K (nI lo) (nI hi) (nI k) := by
    intro d
    induction d with
    | zero =>
      intro k lo hi hk hlo hhi h1 h2 h3
      have : k = D := by omega
      subst this
      apply hK
      unfold vcMd_spreadOf_10
      refine ⟨fun _ => ?_, fun q => absurd (nI_le (Nat.le_refl _) (by omega)) q⟩
      have e1 : hgOf k (pb G b) (fun k => lev (C k) c) = hi := hgOf_is hk0 (pb_t.mpr hg0) (fun j hj hj2 => (h3 j hj (pb_t.mp hj2)).2) (Or.inr (by obtain ⟨j, j1, j2, j3⟩ := h2; exact ⟨j, j1, pb_t.mpr j2, j3⟩))
      have e2 : lwOf k (pb G b) (fun k => lev (C k) c) = lo := lwOf_is hk0 (pb_t.mpr hg0) (fun j _ => by have := lev_lt (C j) c; omega) (fun j hj hj2 => (h3 j hj (pb_t.mp hj2)).1) (Or.inr (by obtain ⟨j, j1, j2, j3⟩ := h1; exact ⟨j, j1, pb_t.mpr j2, j3⟩))
      have := h3 k0 hk0 hg0
      rw [nz_sub (by omega)]
      unfold spr at h
      rw [e1, e2] at h
      exact h
    | succ d ih =>
      intro k lo hi hk hlo hhi h1 h2 h3
      apply hK
      obtain ⟨g1, g2⟩ := hG k (by omega)
      have l := lev_lt (C k) c
      have hcc := (hC k (by omega)).2 c hc
      simp only [vcMd_spreadOf_10, vcMd_spreadOf_55, vcMd_spreadOf_70, vcMd_spreadOf_72]
      simp (disch := omega) only [li_0, li_1, li_2, li_3, li_4, li_8, li_16, li_20, li_24, li_40, li_63, li_64, li_255, li_256, li_576, nI_add, pk_mul, nz_neg, nz_sub, nz_cl, nz_le, nz_lt, nz_eq, nz_in, nz_div, true_and, forall_eq, g2, hcc]
      have w1 : ∀ x, (∃ j, j < k ∧ G j = b ∧ lev (C j) c = x) → ∃ j, j < k + 1 ∧ G j = b ∧ lev (C j) c = x := fun x ⟨j, j1, j2, j3⟩ => ⟨j, by omega, j2, j3⟩
      have w2 : ∀ x y, G k = b → x ≤ lo → hi ≤ y → x ≤ lev (C k) c → lev (C k) c ≤ y → ∀ j, j < k + 1 → G j = b → x ≤ lev (C j) c ∧ lev (C j) c ≤ y := by
        intro x y q0 q1 q2 q3 q4 j hj hj2
        by_cases e : j = k
        · rw [e]; omega
        · have := h3 j (by omega) hj2
          omega
      refine ⟨fun q => by omega, fun _ => ⟨fun q => ih (k + 1) lo hi (by omega) hlo hhi (w1 _ h1) (w1 _ h2) (fun j hj hj2 => ?_), fun q => ⟨fun q2 => ⟨fun q3 => ?_, fun q3 => ?_⟩, fun q2 => ⟨fun q3 => ?_, fun q3 => ?_⟩⟩⟩⟩
      · by_cases e : j = k
        · rw [e] at hj2; exact absurd hj2 q
        · exact h3 j (by omega) hj2
      · exact ih (k + 1) lo hi (by omega) hlo hhi (w1 _ h1) (w1 _ h2) (w2 _ _ q (by omega) (by omega) (by omega) (by omega))
      · exact ih (k + 1) lo (lev (C k) c) (by omega) hlo (by omega) (w1 _ h1) ⟨k, by omega, q, rfl⟩ (w2 _ _ q (by omega) (by omega) (by omega) (by omega))
      · exact ih (k + 1) (lev (C k) c) hi (by omega) (by omega) hhi ⟨k, by omega, q, rfl⟩ (w1 _ h2) (w2 _ _ q (by omega) (by omega) (by omega) (by omega))
      · exact ih (k + 1) (lev (C k) c) (lev (C k) c) (by omega) (by omega) (by omega) ⟨k, by omega, q, rfl⟩ ⟨k, by omega, q, rfl⟩ (w2 _ _ q (by omega) (by omega) (by omega) (by omega))
  have pre : ∀ (d k : Nat), k + d = k0 → (∀ j, j < k → G j ≠ b) → K (nI 256) (-nI 1) (nI k) := by
    intro d
    induction d with
    | zero =>
      intro k hk hno
      have : k = k0 := by omega
      subst this
      apply hK
      obtain ⟨g1, g2⟩ := hG k (by omega)
      have l := lev_lt (C k) c
      have hcc := (hC k (by omega)).2 c hc
      simp only [vcMd_spreadOf_10, vcMd_spreadOf_55, vcMd_spreadOf_70, vcMd_spreadOf_72]
      simp (disch := omega) only [li_0, li_1, li_2, li_3, li_4, li_8, li_16, li_20, li_24, li_40, li_63, li_64, li_255, li_256, li_576, nI_add, pk_mul, nz_neg, nz_sub, nz_cl, nz_le, nz_lt, nz_eq, nz_in, nz_div, true_and, forall_eq, g2, hcc, nz_m1]
      refine ⟨fun q => by omega, fun _ => ⟨fun q => absurd hg0 q, fun _ => ⟨fun q => by omega, fun _ => ⟨fun q => absurd q id, fun _ => ?_⟩⟩⟩⟩
      refine loop (D - k - 1) (k + 1) _ _ (by omega) (by omega) (by omega) ⟨k, by omega, hg0, rfl⟩ ⟨k, by omega, hg0, rfl⟩ (fun j hj hj2 => ?_)
      by_cases e : j = k
      · rw [e]; omega
      · exact absurd hj2 (hno j (by omega))
    | succ d ih =>
      intro k hk hno
      apply hK
      obtain ⟨g1, g2⟩ := hG k (by omega)
      have l := lev_lt (C k) c
      have hcc := (hC k (by omega)).2 c hc
      simp only [vcMd_spreadOf_10, vcMd_spreadOf_55, vcMd_spreadOf_70, vcMd_spreadOf_72]
      simp (disch := omega) only [li_0, li_1, li_2, li_3, li_4, li_8, li_16, li_20, li_24, li_40, li_63, li_64, li_255, li_256, li_576, nI_add, pk_mul, nz_neg, nz_sub, nz_cl, nz_le, nz_lt, nz_eq, nz_in, nz_div, true_and, forall_eq, g2, hcc, nz_m1]
      refine ⟨fun q => by omega, fun _ => ⟨fun q => ih (k + 1) (by omega) (fun j hj => ?_), fun q => ⟨fun q => by omega, fun _ => ⟨fun q => absurd q id, fun _ => ?_⟩⟩⟩⟩
      · by_cases e : j = k
        · rw [e]; exact q
        · exact hno j (by omega)
      · refine loop (D - k - 1) (k + 1) _ _ (by omega) (by omega) (by omega) ⟨k, by omega, q, rfl⟩ ⟨k, by omega, q, rfl⟩ (fun j hj hj2 => ?_)
        by_cases e : j = k
        · rw [e]; omega
        · exact absurd hj2 (hno j (by omega))
  exact pre k0 0 (by omega) (fun j hj => absurd hj (Nat.not_lt_zero _))
theorem sp_Md_spread {nc ng nh D b k0 : Nat} {a1 a2 a3 a4 a5 a6 a7 a8 : Int32} {cs gr ch : Nat → Int32} {C G : Nat → Nat} {post : Int32 → (Nat → Int32) → Prop} (hnc : nc < 2147483648) (hng : ng < 2147483648) (hnh : nh < 2147483648) (hD1 : 4 * D ≤ nc) (hD2 : D ≤ ng) (hb : b < 576) (hb2 : b < nh)
    (hC : chs cs D C) (hG : ∀ k, k < D → G k < 576 ∧ gr k = nI (G k)) (hk0 : k0 < D) (hg0 : G k0 = b) (h : post (nI (bsp D C (pb G b))) (upd ch b (nI (wch D C (pb G b))))) : wpMd_spread nc ng nh a1 a2 a3 (nI D) a4 a5 a6 a7 a8 cs gr ch (nI b) post := by
  unfold wpMd_spread
  intro K hK
  have loop2 : ∀ (d c best : Nat), c + d = 4 → 0 < c → fstMin c (fun c => 255 - spr D C (pb G b) c) best → K (nI (spr D C (pb G b) best)) (nI c) (upd ch b (nI best)) := by
    intro d
    induction d with
    | zero =>
      intro c best hcd hc0 hf
      have : c = 4 := by omega
      subst this
      apply hK
      unfold vcMd_spread_4
      have e1 : wch D C (pb G b) = best := fmin_eq hf
      unfold bsp at h
      rw [e1] at h
      exact ⟨fun _ => h, fun q => absurd (by decide) q⟩
    | succ d ih =>
      intro c best hcd hc0 hf
      apply hK
      unfold vcMd_spread_4 vcMd_spread_33
      refine ⟨fun q => absurd q (by rw [li_4]; exact nI_ge (by omega) (by omega)), fun _ => ?_⟩
      refine sp_Md_spreadOf hnc hng hD1 hD2 (by omega) hb hC hG hk0 hg0 ?_
      have l1 := spr_le (D := D) (C := C) (p := pb G b) (c := c)
      have l2 := spr_le (D := D) (C := C) (p := pb G b) (c := best)
      simp (disch := omega) only [li_0, li_1, li_2, li_3, li_4, li_8, li_16, li_20, li_24, li_40, li_63, li_64, li_255, li_256, li_576, nI_add, pk_mul, nz_neg, nz_sub, nz_cl, nz_le, nz_lt, nz_eq, nz_in, nz_div, true_and, forall_eq, pk_us, uu]
      refine ⟨fun q => ih (c + 1) best (by omega) (by omega) (fstMin_s2 hf (by omega)), fun q => ih (c + 1) c (by omega) (by omega) (fstMin_s1 hf (by omega))⟩
  apply hK
  unfold vcMd_spread_4 vcMd_spread_33
  refine ⟨fun q => absurd q (by decide), fun _ => ?_⟩
  rw [li_0]
  refine sp_Md_spreadOf hnc hng hD1 hD2 (by omega) hb hC hG hk0 hg0 ?_
  have l1 := spr_le (D := D) (C := C) (p := pb G b) (c := 0)
  refine ⟨fun q => absurd q (nle_m1 (by omega)), fun _ => ⟨vp_in_nI hb2 (by omega), ?_⟩⟩
  rw [nz_cl (by omega), nI_1]
  exact loop2 3 1 0 rfl (by omega) (fstMin_1 _)
theorem sp_Md_samplesOf {nm ng D b : Nat} {a1 a2 a3 a4 a5 a6 a7 a8 : Int32} {ms gr : Nat → Int32} {M G : Nat → Nat} {post : Int32 → Prop} (hnm : nm < 2147483648) (hng : ng < 2147483648) (hD1 : D ≤ nm) (hD2 : D ≤ ng) (hb : b < 576)
    (hM : ∀ k, k < D → ms k = nI (M k)) (hG : ∀ k, k < D → G k < 576 ∧ gr k = nI (G k)) (h : post (nI (sm D (pb G b) M))) : wpMd_samplesOf nm ng a1 a2 a3 (nI D) a4 a5 a6 a7 a8 ms gr (nI b) post := by
  unfold wpMd_samplesOf
  intro K hK
  have loop : ∀ (d k : Nat), k + d = D → K (nI (sm k (pb G b) M)) (nI k) := by
    intro d
    induction d with
    | zero =>
      intro k hk
      have : k = D := by omega
      subst this
      apply hK
      unfold vcMd_samplesOf_4
      exact ⟨fun _ => h, fun q => absurd (nI_le (Nat.le_refl _) (by omega)) q⟩
    | succ d ih =>
      intro k hk
      apply hK
      obtain ⟨g1, g2⟩ := hG k (by omega)
      have := ih (k + 1) (by omega)
      rw [sm_s] at this
      simp only [vcMd_samplesOf_4, vcMd_samplesOf_33]
      simp (disch := omega) only [li_0, li_1, li_2, li_3, li_4, li_8, li_16, li_20, li_24, li_40, li_63, li_64, li_255, li_256, li_576, nI_add, pk_mul, nz_neg, nz_sub, nz_cl, nz_le, nz_lt, nz_eq, nz_in, nz_div, true_and, forall_eq, g2, hM k (by omega)]
      refine ⟨fun q => by omega, fun _ => ⟨fun q => ?_, fun q => ?_⟩⟩
      · rw [if_neg (fun z => q (pb_t.mp z))] at this
        exact this
      · rw [if_pos (pb_t.mpr q)] at this
        exact this
  exact loop D 0 (by omega)
theorem sp_Md_look {nc nm ng nh D b k0 : Nat} {a1 a2 a3 a4 a5 a6 a7 a8 : Int32} {cs ms gr ch sp bm : Nat → Int32} {C M G : Nat → Nat} {post : (Nat → Int32) → (Nat → Int32) → (Nat → Int32) → Prop} (hnc : nc < 2147483648) (hnm : nm < 2147483648) (hng : ng < 2147483648) (hnh : nh < 2147483648) (hD1 : 4 * D ≤ nc) (hD2 : D ≤ ng) (hD3 : D ≤ nm) (hb : b < 576) (hb2 : b < nh)
    (hC : chs cs D C) (hM : ∀ k, k < D → ms k = nI (M k)) (hG : ∀ k, k < D → G k < 576 ∧ gr k = nI (G k)) (hk0 : k0 < D) (hg0 : G k0 = b)
    (h : post (upd ch b (nI (wch D C (pb G b)))) (upd sp b (nI (bsp D C (pb G b)))) (upd bm b (nI (sm D (pb G b) M)))) : wpMd_look nc nm ng nh nh nh a1 a2 a3 (nI D) a4 a5 a6 a7 a8 cs ms gr ch sp bm (nI b) post := by
  unfold wpMd_look
  refine sp_Md_spread hnc hng hnh hD1 hD2 hb hb2 hC hG hk0 hg0 ⟨vp_in_nI hb2 (by omega), sp_Md_samplesOf hnm hng hD3 hD2 hb hM hG ⟨vp_in_nI hb2 (by omega), ?_⟩⟩
  rw [nz_cl (by omega)]
  exact h
