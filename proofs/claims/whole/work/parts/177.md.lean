/-! the model's own helpers -/
/-- four cells from i on are the channels of t -/
def chA (f : Nat → Int32) (i t : Nat) : Prop := ∀ c, c < 4 → f (i + c) = nI (lev t c)
theorem chs_A {f : Nat → Int32} {z k : Nat} {P : Nat → Nat} (h : chs f z P) (hk : k < z) : chA f (4 * k) (P k) := (h k hk).2
theorem sp_Md_compare {n m i j t u : Nat} {f g : Nat → Int32} {post : Int32 → Prop} (hn : n < 2147483648) (hm : m < 2147483648) (hi : i + 4 ≤ n) (hj : j + 4 ≤ m) (ht : t < 4294967296) (hu : u < 4294967296) (hf : chA f i t) (hg : chA g j u)
    (h0 : t = u → post (nI 0)) (h1 : t < u → ∀ r, r < nI 0 → post r) (h2 : u < t → ∀ r, nI 0 < r → post r) : wpMd_compare n m f g (nI i) (nI j) post := by
  unfold wpMd_compare
  intro K hK
  have loop : ∀ d c, c + d = 4 → (∀ e, e < c → lev t e = lev u e) → K (nI c) := by
    intro d
    induction d with
    | zero =>
      intro c hc he
      apply hK
      have : c = 4 := by omega
      subst this
      unfold vcMd_compare_3
      simp (disch := omega) only [li_0, li_1, li_2, li_3, li_4, li_8, li_16, li_20, li_24, li_40, li_63, li_64, li_255, li_256, li_576, nI_add, pk_mul, nz_neg, nz_sub, nz_cl, nz_le, nz_lt, nz_eq, nz_in, nz_div, true_and, forall_eq]
      exact ⟨fun _ => h0 (lev_inj ht hu he), fun q => absurd (Nat.le_refl _) q⟩
    | succ d ih =>
      intro c hc he
      apply hK
      unfold vcMd_compare_3
      have b1 := lev_lt t c
      have b2 := lev_lt u c
      simp (disch := omega) only [li_0, li_1, li_2, li_3, li_4, li_8, li_16, li_20, li_24, li_40, li_63, li_64, li_255, li_256, li_576, nI_add, pk_mul, nz_neg, nz_sub, nz_cl, nz_le, nz_lt, nz_eq, nz_in, nz_div, true_and, forall_eq, hf c (by omega), hg c (by omega)]
      refine ⟨fun q => by omega, fun _ => ⟨fun q => ?_, fun q => ?_⟩⟩
      · refine ih (c + 1) (by omega) (fun e he2 => ?_)
        by_cases e2 : e = c
        · rw [e2]; exact q
        · exact he e (by omega)
      · rcases Nat.lt_or_ge (lev t c) (lev u c) with q2 | q2
        · refine h1 (lev_lt_of ht hu (by omega) he q2) _ ?_
          exact pk_sneg (by omega) q2
        · refine h2 (lev_lt_of hu ht (by omega) (fun e he2 => (he e he2).symm) (by omega)) _ ?_
          simp (disch := omega) only [li_0, li_1, li_2, li_3, li_4, li_8, li_16, li_20, li_24, li_40, li_63, li_64, li_255, li_256, li_576, nI_add, pk_mul, nz_neg, nz_sub, nz_cl, nz_le, nz_lt, nz_eq, nz_in, nz_div, true_and, forall_eq]
          omega
  exact loop 4 0 rfl (fun e he => absurd he (Nat.not_lt_zero _))
theorem sp_Md_compare__02 {n i j t u : Nat} {f : Nat → Int32} {post : Int32 → Prop} (hn : n < 2147483648) (hi : i + 4 ≤ n) (hj : j + 4 ≤ n) (ht : t < 4294967296) (hu : u < 4294967296) (hf : chA f i t) (hg : chA f j u)
    (h0 : t = u → post (nI 0)) (h1 : t < u → ∀ r, r < nI 0 → post r) (h2 : u < t → ∀ r, nI 0 < r → post r) : wpMd_compare__02 n f (nI i) (nI j) post :=
  sp_Md_compare hn hn hi hj ht hu hf hg h0 h1 h2
theorem setc_of {f : Nat → Int32} {k t : Nat} : upd (upd (upd (upd f (4 * k + 0) (nI (lev t 0))) (4 * k + 1) (nI (lev t 1))) (4 * k + 2) (nI (lev t 2))) (4 * k + 3) (nI (lev t 3)) = setc f k t := by
  funext j
  simp only [upd, setc]
  by_cases h0 : j = 4 * k + 3
  · subst h0
    rw [if_pos rfl, if_pos (by omega), Nat.add_sub_cancel_left]
  · rw [if_neg h0]
    by_cases h1 : j = 4 * k + 2
    · subst h1
      rw [if_pos rfl, if_pos (by omega), Nat.add_sub_cancel_left]
    · rw [if_neg h1]
      by_cases h2 : j = 4 * k + 1
      · subst h2
        rw [if_pos rfl, if_pos (by omega), Nat.add_sub_cancel_left]
      · rw [if_neg h2]
        by_cases h3 : j = 4 * k + 0
        · subst h3
          rw [if_pos rfl, if_pos (by omega), Nat.add_sub_cancel_left]
        · rw [if_neg h3, if_neg (by omega)]
theorem sp_Md_copy {n m i k t : Nat} {f g : Nat → Int32} {post : (Nat → Int32) → Prop} (hn : n < 2147483648) (hm : m < 2147483648) (hi : i + 4 ≤ n) (hk : 4 * k + 4 ≤ m) (hf : chA f i t) (h : post (setc g k t)) : wpMd_copy n m f g (nI i) (nI (4 * k)) post := by
  unfold wpMd_copy
  intro K hK
  have step : ∀ (c : Nat) (g : Nat → Int32), c < 4 → K (nI (c + 1)) (upd g (4 * k + c) (nI (lev t c))) → K (nI c) g := by
    intro c g hc hk2
    apply hK
    unfold vcMd_copy_3
    simp (disch := omega) only [li_0, li_1, li_2, li_3, li_4, li_8, li_16, li_20, li_24, li_40, li_63, li_64, li_255, li_256, li_576, nI_add, pk_mul, nz_neg, nz_sub, nz_cl, nz_le, nz_lt, nz_eq, nz_in, nz_div, true_and, forall_eq, hf c hc]
    exact ⟨fun q => by omega, fun _ => hk2⟩
  rw [li_0]
  refine step 0 g (by decide) (step 1 _ (by decide) (step 2 _ (by decide) (step 3 _ (by decide) ?_)))
  apply hK
  unfold vcMd_copy_3
  rw [setc_of]
  exact ⟨fun _ => h, fun h4 => absurd (by decide) h4⟩
theorem sp_Md_copy__02 {n i k t : Nat} {g : Nat → Int32} {post : (Nat → Int32) → Prop} (hn : n < 2147483648) (hi : i + 4 ≤ 4 * k) (hk : 4 * k + 4 ≤ n) (hf : chA g i t) (h : post (setc g k t)) : wpMd_copy__02 n g (nI i) (nI (4 * k)) post := by
  unfold wpMd_copy__02
  intro K hK
  have step : ∀ (c : Nat) (g : Nat → Int32), c < 4 → chA g i t → (chA (upd g (4 * k + c) (nI (lev t c))) i t → K (nI (c + 1)) (upd g (4 * k + c) (nI (lev t c)))) → K (nI c) g := by
    intro c g hc hf hk2
    apply hK
    unfold vcMd_copy__02_3
    simp (disch := omega) only [li_0, li_1, li_2, li_3, li_4, li_8, li_16, li_20, li_24, li_40, li_63, li_64, li_255, li_256, li_576, nI_add, pk_mul, nz_neg, nz_sub, nz_cl, nz_le, nz_lt, nz_eq, nz_in, nz_div, true_and, forall_eq, hf c hc]
    refine ⟨fun q => by omega, fun _ => hk2 (fun d hd => ?_)⟩
    rw [pk_un (by omega)]
    exact hf d hd
  rw [li_0]
  refine step 0 g (by decide) hf (fun q => step 1 _ (by decide) q (fun q => step 2 _ (by decide) q (fun q => step 3 _ (by decide) q (fun q => ?_))))
  apply hK
  unfold vcMd_copy__02_3
  rw [setc_of]
  exact ⟨fun _ => h, fun h4 => absurd (by decide) h4⟩
theorem sp_Md_far {n m i j t u : Nat} {f g : Nat → Int32} {post : Int64 → Prop} (hn : n < 2147483648) (hm : m < 2147483648) (hi : i + 4 ≤ n) (hj : j + 4 ≤ m) (hf : chA f i t) (hg : chA g j u) (h : post (lN (far t u))) : wpMd_far n m f g (nI i) (nI j) post := by
  unfold wpMd_far
  intro K hK
  have step : ∀ (c v : Nat), c < 4 → K (lN (v + sqd (lev t c) (lev u c))) (nI (c + 1)) → K (lN v) (nI c) := by
    intro c v hc hk2
    apply hK
    unfold vcMd_far_6
    simp (disch := omega) only [li_0, li_1, li_2, li_3, li_4, li_8, li_16, li_20, li_24, li_40, li_63, li_64, li_255, li_256, li_576, nI_add, pk_mul, nz_neg, nz_sub, nz_cl, nz_le, nz_lt, nz_eq, nz_in, nz_div, true_and, forall_eq, hf c hc, hg c hc, lN_sq (lev_lt t c) (lev_lt u c), lN_add]
    exact ⟨fun q => by omega, fun _ => hk2⟩
  rw [li_0, lj_0]
  refine step 0 0 (by decide) (step 1 _ (by decide) (step 2 _ (by decide) (step 3 _ (by decide) ?_)))
  apply hK
  unfold vcMd_far_6
  refine ⟨fun _ => ?_, fun h4 => absurd (by decide) h4⟩
  rw [show 0 + sqd (lev t 0) (lev u 0) + sqd (lev t 1) (lev u 1) + sqd (lev t 2) (lev u 2) + sqd (lev t 3) (lev u 3) = far t u by unfold far; omega]
  exact h
theorem sp_Md_far__02 {n i j t u : Nat} {f : Nat → Int32} {post : Int64 → Prop} (hn : n < 2147483648) (hi : i + 4 ≤ n) (hj : j + 4 ≤ n) (hf : chA f i t) (hg : chA f j u) (h : post (lN (far t u))) : wpMd_far__02 n f (nI i) (nI j) post :=
  sp_Md_far hn hn hi hj hf hg h
/-- the place of the nearest colour -/
def nrr (z : Nat) (P : Nat → Nat) (t k : Nat) : Prop := fstMin z (fun j => far t (P j)) k
theorem sp_Md_nearestTo {n m i z t : Nat} {a1 a2 a3 a4 a5 a6 a7 a8 : Int32} {f g : Nat → Int32} {P : Nat → Nat} {post : Int32 → Prop} (hn : n < 2147483648) (hm : m < 2147483648) (hz : 4 * z ≤ n) (hz0 : 0 < z) (hi : i + 4 ≤ m) (hP : chs f z P) (hg : chA g i t)
    (h : ∀ k, nrr z P t k → post (nI k)) : wpMd_nearestTo n m a1 a2 a3 a4 a5 a6 a7 (nI z) a8 f g (nI i) post := by
  unfold wpMd_nearestTo
  intro K hK
  have loop : ∀ (d k best : Nat), k + d = z → best < k → (∀ j, j < k → far t (P best) ≤ far t (P j)) → (∀ j, j < best → far t (P best) < far t (P j)) → K (nI best) (nI k) := by
    intro d
    induction d with
    | zero =>
      intro k best hk hb h1 h2
      have : k = z := by omega
      subst this
      apply hK
      unfold vcMd_nearestTo_5
      exact ⟨fun _ => h best ⟨hb, h1, h2⟩, fun q => absurd (nI_le (Nat.le_refl _) (by omega)) q⟩
    | succ d ih =>
      intro k best hk hb h1 h2
      apply hK
      unfold vcMd_nearestTo_5 vcMd_nearestTo_49
      refine ⟨fun q => absurd q (nI_ge (by omega) (by omega)), fun _ => ?_⟩
      simp (disch := omega) only [li_0, li_1, li_2, li_3, li_4, li_8, li_16, li_20, li_24, li_40, li_63, li_64, li_255, li_256, li_576, nI_add, pk_mul, nz_neg, nz_sub, nz_cl, nz_le, nz_lt, nz_eq, nz_in, nz_div, true_and, forall_eq]
      refine sp_Md_far hn hm (by omega) hi (chs_A hP (by omega)) hg (sp_Md_far hn hm (by omega) hi (chs_A hP (by omega)) hg ?_)
      have b1 := far_le (P k) t
      have b2 := far_le (P best) t
      simp (disch := omega) only [li_0, li_1, li_2, li_3, li_4, li_8, li_16, li_20, li_24, li_40, li_63, li_64, li_255, li_256, li_576, nI_add, pk_mul, nz_neg, nz_sub, nz_cl, nz_le, nz_lt, nz_eq, nz_in, nz_div, true_and, forall_eq, lj_0, lj_1, lj_2, nz_l, lN_add, lN_mul, nz_lsub, nz_ldiv, nz_lle, nz_llt, nz_leq, lN_i, lc_ge, lc_le, lc_gt, lc_lt, lc_eq]
      rw [far_comm (P k), far_comm (P best)]
      refine ⟨fun q => ih (k + 1) best (by omega) (by omega) (fun j hj => ?_) h2, fun q => ih (k + 1) k (by omega) (by omega) (fun j hj => ?_) (fun j hj => ?_)⟩
      · by_cases e : j = k
        · rw [e]; exact q
        · exact h1 j (by omega)
      · by_cases e : j = k
        · rw [e]; exact Nat.le_refl _
        · have := h1 j (by omega)
          omega
      · have := h1 j (by omega)
        omega
  refine loop (z - 1) 1 0 (by omega) (by omega) (fun j hj => ?_) (fun j hj => absurd hj (Nat.not_lt_zero _))
  rw [show j = 0 by omega]
  exact Nat.le_refl _
