/-! pools -/
theorem chs_cg {f : Nat → Int32} {z : Nat} {P P' : Nat → Nat} (h : chs f z P) (e : ∀ j, j < z → P' j = P j) : chs f z P' := fun j hj => by rw [e j hj]; exact h j hj
theorem sp_Ar_fill {n : Nat} {f : Nat → Int32} {x : Int32} {post : (Nat → Int32) → Prop} (hn : n < 2147483648) (h : ∀ g, (∀ i, i < n → g i = x) → post g) : wpAr_fill n f x post := by
  unfold wpAr_fill
  intro K hK v hv
  subst hv
  have loop : ∀ (d i : Nat) (f : Nat → Int32), i + d = n → (∀ j, j < i → f j = x) → K (nI i) (nI n) f := by
    intro d
    induction d with
    | zero =>
      intro i f hi hf
      have : i = n := by omega
      subst this
      apply hK
      unfold vcAr_fill_5
      exact ⟨fun _ => h f hf, fun q => absurd (nI_le (Nat.le_refl _) (by omega)) q⟩
    | succ d ih =>
      intro i f hi hf
      apply hK
      unfold vcAr_fill_5
      refine ⟨fun q => absurd q (nI_ge (by omega) (by omega)), fun _ => ?_⟩
      simp (disch := omega) only [li_0, li_1, li_2, li_3, li_4, li_8, li_16, li_20, li_24, li_40, li_63, li_64, li_255, li_256, li_576, nI_add, pk_mul, nz_neg, nz_sub, nz_cl, nz_le, nz_lt, nz_eq, nz_in, nz_div, true_and, forall_eq]
      refine ih (i + 1) _ (by omega) (fun j hj => ?_)
      by_cases c : j = i
      · rw [c, pk_us]
      · rw [pk_un c]; exact hf j (by omega)
  exact loop n 0 f (by omega) (fun j hj => absurd hj (Nat.not_lt_zero _))
/-- pool j holds W j samples; T j c is the sum of channel c -/
def plS (z : Nat) (T : Nat → Nat → Nat) (W : Nat → Nat) (to ma : Nat → Int32) : Prop := ∀ j, j < z → ma j = nI (W j) ∧ ∀ c, c < 4 → to (4 * j + c) = nI (T j c)
theorem plS_cg {z : Nat} {T T' : Nat → Nat → Nat} {W W' : Nat → Nat} {to ma : Nat → Int32} (h : plS z T W to ma) (h1 : ∀ j, j < z → W' j = W j) (h2 : ∀ j, j < z → ∀ c, c < 4 → T' j c = T j c) : plS z T' W' to ma := fun j hj => ⟨by rw [h1 j hj]; exact (h j hj).1, fun c hc => by rw [h2 j hj c hc]; exact (h j hj).2 c hc⟩
theorem sp_Po_start {x : Nat} {sz : Int32} {to ma : Nat → Int32} {post : Int32 → (Nat → Int32) → (Nat → Int32) → Prop} (hx : x ≤ 64) (h : ∀ to' ma', plS 64 (fun _ _ => 0) (fun _ => 0) to' ma' → post (nI x) to' ma') : wpPo_start 256 64 sz to ma (nI x) post := by
  unfold wpPo_start
  intro w hw
  have e : (if (64 : Int32) < nI x then (64 : Int32) else nI x) = nI x := by
    rw [if_neg]
    rw [li_64, nI_ltI (by omega) (by omega)]
    omega
  rw [e] at hw
  subst hw
  refine sp_Ar_fill (by omega) (fun g hg => sp_Ar_fill (by omega) (fun g2 hg2 => h g g2 (fun j hj => ⟨hg2 j hj, fun c hc => hg _ (by omega)⟩)))
theorem sp_Po_pour {j t m z : Nat} {sz : Int32} {to ma : Nat → Int32} {T : Nat → Nat → Nat} {W : Nat → Nat} {post : (Nat → Int32) → (Nat → Int32) → Prop} (hz : z ≤ 64) (hj : j < z) (ht : t < 4294967296) (hp : plS z T W to ma)
    (h : ∀ to' ma', plS z (fun i c => if i = j then T j c + m * lev t c else T i c) (fun i => if i = j then W j + m else W i) to' ma' → post to' ma') : wpPo_pour 256 64 sz to ma (nI j) (nI t) (nI m) post := by
  unfold wpPo_pour
  intro K hK
  have loop : ∀ (d c : Nat) (to' : Nat → Int32), c + d = 4 → (∀ i, i < z → ∀ e, e < 4 → to' (4 * i + e) = nI (if i = j ∧ e < c then T j e + m * lev t e else T i e)) → K (nI c) to' ma := by
    intro d
    induction d with
    | zero =>
      intro c to' hc hto
      have : c = 4 := by omega
      subst this
      apply hK
      unfold vcPo_pour_3
      have q := hp j hj
      simp (disch := omega) only [li_0, li_1, li_2, li_3, li_4, li_8, li_16, li_20, li_24, li_40, li_63, li_64, li_255, li_256, li_576, nI_add, pk_mul, nz_neg, nz_sub, nz_cl, nz_le, nz_lt, nz_eq, nz_in, nz_div, true_and, forall_eq, q.1]
      refine ⟨fun _ => h _ _ (fun i hi => ⟨?_, fun e he => ?_⟩), fun q => absurd (Nat.le_refl _) q⟩
      · simp only [upd]
        by_cases c : i = j
        · rw [if_pos c, if_pos c]
        · rw [if_neg c, if_neg c]; exact (hp i hi).1
      · rw [hto i hi e he]
        by_cases c : i = j
        · simp only [c, he, and_self, if_true]
        · simp only [c, false_and, if_false]
    | succ d ih =>
      intro c to' hc hto
      apply hK
      unfold vcPo_pour_3
      have q := hto j hj c (by omega)
      rw [if_neg (by omega)] at q
      simp (disch := omega) only [li_0, li_1, li_2, li_3, li_4, li_8, li_16, li_20, li_24, li_40, li_63, li_64, li_255, li_256, li_576, nI_add, pk_mul, nz_neg, nz_sub, nz_cl, nz_le, nz_lt, nz_eq, nz_in, nz_div, true_and, forall_eq, show j * 4 + c = 4 * j + c by omega]
      refine ⟨fun q => by omega, fun _ => sp_levelOf ht (by omega) ?_⟩
      simp (disch := omega) only [li_0, li_1, li_2, li_3, li_4, li_8, li_16, li_20, li_24, li_40, li_63, li_64, li_255, li_256, li_576, nI_add, pk_mul, nz_neg, nz_sub, nz_cl, nz_le, nz_lt, nz_eq, nz_in, nz_div, true_and, forall_eq, q]
      refine ih (c + 1) _ (by omega) (fun i hi e he => ?_)
      simp only [upd]
      by_cases c2 : 4 * i + e = 4 * j + c
      · have c3 : i = j := by omega
        have c4 : e = c := by omega
        rw [if_pos c2, if_pos (by omega), c4, Nat.mul_comm m]
      · rw [if_neg c2, hto i hi e he]
        by_cases c3 : i = j ∧ e < c
        · rw [if_pos c3, if_pos (by omega)]
        · rw [if_neg c3, if_neg (by omega)]
  refine loop 4 0 to rfl (fun i hi e he => ?_)
  rw [if_neg (by omega)]
  exact (hp i hi).2 e he
def mlv (T W : Nat) : Nat := (2 * T + W) / (2 * W)
theorem mlv_lt {T W : Nat} (h : T ≤ 255 * W) : mlv T W < 256 := by
  unfold mlv
  rcases Nat.eq_zero_or_pos W with e | e
  · subst e
    rw [Nat.mul_zero, Nat.div_zero]
    decide
  · rw [Nat.div_lt_iff_lt_mul (by omega)]
    omega
def mcl (T : Nat → Nat) (W : Nat) : Nat := pk4 (mlv (T 0) W) (mlv (T 1) W) (mlv (T 2) W) (mlv (T 3) W)
theorem mcl_lt {T : Nat → Nat} {W : Nat} (h : ∀ c, c < 4 → T c ≤ 255 * W) : mcl T W < 4294967296 := pk4_lt (mlv_lt (h 0 (by omega))) (mlv_lt (h 1 (by omega))) (mlv_lt (h 2 (by omega))) (mlv_lt (h 3 (by omega)))
theorem mcl_lev {T : Nat → Nat} {W c : Nat} (h : ∀ c, c < 4 → T c ≤ 255 * W) (hc : c < 4) : lev (mcl T W) c = mlv (T c) W := by
  have := lev_pk (mlv_lt (h 0 (by omega))) (mlv_lt (h 1 (by omega))) (mlv_lt (h 2 (by omega))) (mlv_lt (h 3 (by omega)))
  rcases co4 hc with rfl | rfl | rfl | rfl
  · exact this.1
  · exact this.2.1
  · exact this.2.2.1
  · exact this.2.2.2
theorem sp_Po_meanLevel {j c z : Nat} {sz : Int32} {to ma : Nat → Int32} {T : Nat → Nat → Nat} {W : Nat → Nat} {post : Int32 → Prop} (hz : z ≤ 64) (hj : j < z) (hc : c < 4) (hp : plS z T W to ma) (hW : W j ≤ 576) (hT : T j c ≤ 255 * W j)
    (h : post (nI (mlv (T j c) (W j)))) : wpPo_meanLevel 256 64 sz to ma (nI j) (nI c) post := by
  unfold wpPo_meanLevel
  have q := hp j hj
  have q2 := q.2 c hc
  simp (disch := omega) only [li_0, li_1, li_2, li_3, li_4, li_8, li_16, li_20, li_24, li_40, li_63, li_64, li_255, li_256, li_576, nI_add, pk_mul, nz_neg, nz_sub, nz_cl, nz_le, nz_lt, nz_eq, nz_in, nz_div, true_and, forall_eq, show j * 4 + c = 4 * j + c by omega, q.1, q2]
  refine ⟨fun e => ?_, fun e => ?_⟩
  · simp (disch := omega) only [li_0, li_1, li_2, li_3, li_4, li_8, li_16, li_20, li_24, li_40, li_63, li_64, li_255, li_256, li_576, nI_add, pk_mul, nz_neg, nz_sub, nz_cl, nz_le, nz_lt, nz_eq, nz_in, nz_div, true_and, forall_eq]
    exact ⟨by omega, h⟩
  · have : W j = 0 := by omega
    unfold mlv at h
    rw [this, Nat.mul_zero, Nat.div_zero] at h
    exact h
theorem sp_Po_meanOf {j z : Nat} {sz : Int32} {to ma : Nat → Int32} {T : Nat → Nat → Nat} {W : Nat → Nat} {post : Int32 → Prop} (hz : z ≤ 64) (hj : j < z) (hp : plS z T W to ma) (hW : W j ≤ 576) (hT : ∀ c, c < 4 → T j c ≤ 255 * W j)
    (h : post (nI (mcl (T j) (W j)))) : wpPo_meanOf 256 64 sz to ma (nI j) post := by
  unfold wpPo_meanOf
  rw [li_0, li_1, li_2, li_3]
  exact sp_Po_meanLevel hz hj (by omega) hp hW (hT 0 (by omega)) (sp_Po_meanLevel hz hj (by omega) hp hW (hT 1 (by omega)) (sp_Po_meanLevel hz hj (by omega) hp hW (hT 2 (by omega)) (sp_Po_meanLevel hz hj (by omega) hp hW (hT 3 (by omega)) (sp_packed (mlv_lt (hT 0 (by omega))) (mlv_lt (hT 1 (by omega))) (mlv_lt (hT 2 (by omega))) (mlv_lt (hT 3 (by omega))) h))))
theorem sp_Po_addMeansTo {z : Nat} {to ma lv : Nat → Int32} {T : Nat → Nat → Nat} {W : Nat → Nat} {post : Int32 → (Nat → Int32) → Prop} (hz : z ≤ 64) (hp : plS z T W to ma) (hW : ∀ j, j < z → W j ≤ 576) (hT : ∀ j, j < z → ∀ c, c < 4 → T j c ≤ 255 * W j)
    (h : ∀ lv', chs lv' z (fun j => mcl (T j) (W j)) → post (nI z) lv') : wpPo_addMeansTo 256 64 256 (nI z) to ma (nI 0) lv post := by
  unfold wpPo_addMeansTo
  intro K hK
  have loop : ∀ (d k : Nat) (lv : Nat → Int32), k + d = z → chs lv k (fun j => mcl (T j) (W j)) → K (nI k) (nI k) lv := by
    intro d
    induction d with
    | zero =>
      intro k lv hk hlv
      have : k = z := by omega
      subst this
      apply hK
      unfold vcPo_addMeansTo_2
      exact ⟨fun _ => h lv hlv, fun q => absurd (nI_le (Nat.le_refl _) (by omega)) q⟩
    | succ d ih =>
      intro k lv hk hlv
      apply hK
      unfold vcPo_addMeansTo_2
      refine ⟨fun q => absurd q (nI_ge (by omega) (by omega)), fun _ => ?_⟩
      refine sp_Po_meanOf hz (by omega) hp (hW k (by omega)) (hT k (by omega)) (sp_add (by omega) (by omega) (by omega) (mcl_lt (hT k (by omega))) ?_)
      rw [nI_1]
      refine ih (k + 1) _ (by omega) (chs_cg (chs_push hlv (mcl_lt (hT k (by omega)))) (fun j hj => ?_))
      by_cases c : j = k
      · rw [if_pos c, c]
      · rw [if_neg c]
  exact loop z 0 lv (by omega) (fun j hj => absurd hj (Nat.not_lt_zero _))
def tsum (D : Nat) (C M : Nat → Nat) (p : Nat → Bool) (c : Nat) : Nat := sm D p (fun k => M k * lev (C k) c)
theorem tsum_le {D c : Nat} {C M : Nat → Nat} {p : Nat → Bool} : tsum D C M p c ≤ 255 * sm D p M := sm_fle (fun k _ => by rw [Nat.mul_comm]; exact Nat.mul_le_mul_right _ (by have := lev_lt (C k) c; omega))
def mcol (D : Nat) (C M : Nat → Nat) (p : Nat → Bool) : Nat := mcl (tsum D C M p) (sm D p M)
theorem mcol_lt {D : Nat} {C M : Nat → Nat} {p : Nat → Bool} : mcol D C M p < 4294967296 := mcl_lt (fun _ _ => tsum_le)
theorem mcol_cg {D : Nat} {C M : Nat → Nat} {p q : Nat → Bool} (h : ∀ k, k < D → p k = q k) : mcol D C M p = mcol D C M q := by
  unfold mcol
  rw [sm_congr h (fun _ _ _ => rfl), show tsum D C M p = tsum D C M q from funext (fun c => sm_congr h (fun _ _ _ => rfl))]
theorem sp_Bx_pourInto {N D n : Nat} {ps ss sst : Int32} {row st en we sp wi to ma ti mb : Nat → Int32} {C M G : Nat → Nat} {post : Int32 → (Nat → Int32) → (Nat → Int32) → Prop}
    (hN : N ≤ 576) (hDN : D ≤ N) (hn : n ≤ 64) (hcb : cbOK D C M G n row st en we sp wi) (ht : ∀ k, k < D → C k < 4294967296 ∧ ti k = nI (C k)) (hma : ∀ k, k < D → mb k = nI (M k))
    (h : ∀ to' ma', plS n (fun j => tsum D C M (pb G j)) (fun j => sm D (pb G j) M) to' ma' → post (nI n) to' ma') : wpBx_pourInto N 64 64 256 64 N N (nI n) row st en ps to ma ss sst ti mb post := by
  unfold wpBx_pourInto
  intro K10 K26 h10 h26
  obtain ⟨R, Q, s, e, hr, hb⟩ := hcb
  have boxes : ∀ (d b : Nat) (to ma : Nat → Int32), b + d = n → plS n (fun j c => if j < b then tsum D C M (pb G j) c else 0) (fun j => if j < b then sm D (pb G j) M else 0) to ma → K10 (nI b) (nI n) to ma := by
    intro d
    induction d with
    | zero =>
      intro b to ma hbd hp
      have : b = n := by omega
      subst this
      apply h10
      unfold vcBx_pourInto_10
      refine ⟨fun _ => h to ma (plS_cg hp (fun j hj => ?_) (fun j hj c _ => ?_)), fun q => absurd (nI_le (Nat.le_refl _) (by omega)) q⟩
      · rw [if_pos hj]
      · rw [if_pos hj]
    | succ d ih =>
      intro b to ma hbd hp
      obtain ⟨b1, b2, b3, b4, b5, -⟩ := hb b (by omega)
      apply h10
      unfold vcBx_pourInto_10
      refine ⟨fun q => absurd q (nI_ge (by omega) (by omega)), fun _ => ?_⟩
      simp (disch := omega) only [li_0, li_1, li_2, li_3, li_4, li_8, li_16, li_20, li_24, li_40, li_63, li_64, li_255, li_256, li_576, nI_add, pk_mul, nz_neg, nz_sub, nz_cl, nz_le, nz_lt, nz_eq, nz_in, nz_div, true_and, forall_eq, b3]
      have inner : ∀ (f i : Nat) (to ma : Nat → Int32), i + f = e b → s b ≤ i → plS n (fun j c => if j < b then tsum D C M (pb G j) c else if j = b then tsum D C M (sgp Q (s b) i) c else 0) (fun j => if j < b then sm D (pb G j) M else if j = b then sm D (sgp Q (s b) i) M else 0) to ma → K26 (nI b) (nI i) (nI n) to ma := by
        intro f
        induction f with
        | zero =>
          intro i to ma hi hsi hp
          have : i = e b := by omega
          subst this
          apply h26
          unfold vcBx_pourInto_26
          simp (disch := omega) only [li_0, li_1, li_2, li_3, li_4, li_8, li_16, li_20, li_24, li_40, li_63, li_64, li_255, li_256, li_576, nI_add, pk_mul, nz_neg, nz_sub, nz_cl, nz_le, nz_lt, nz_eq, nz_in, nz_div, true_and, forall_eq, b4]
          refine ⟨fun _ => ih (b + 1) to ma (by omega) (plS_cg hp (fun j hj => ?_) (fun j hj c _ => ?_)), fun q => absurd (Nat.le_refl _) q⟩
          · try dsimp only
            by_cases c1 : j < b
            · rw [if_pos c1, if_pos (by omega)]
            · by_cases c2 : j = b
              · rw [if_neg c1, if_pos c2, if_pos (by omega), c2, sm_congr (pb_sg b5) (fun _ _ _ => rfl)]
              · rw [if_neg c1, if_neg c2, if_neg (by omega)]
          · try dsimp only
            by_cases c1 : j < b
            · rw [if_pos c1, if_pos (by omega)]
            · by_cases c2 : j = b
              · rw [if_neg c1, if_pos c2, if_pos (by omega), c2]
                exact sm_congr (pb_sg b5) (fun _ _ _ => rfl)
              · rw [if_neg c1, if_neg c2, if_neg (by omega)]
        | succ f ihf =>
          intro i to ma hi hsi hp
          obtain ⟨a1, a2, a3⟩ := hr.1 i (by omega)
          apply h26
          unfold vcBx_pourInto_26
          simp (disch := omega) only [li_0, li_1, li_2, li_3, li_4, li_8, li_16, li_20, li_24, li_40, li_63, li_64, li_255, li_256, li_576, nI_add, pk_mul, nz_neg, nz_sub, nz_cl, nz_le, nz_lt, nz_eq, nz_in, nz_div, true_and, forall_eq, b4, a3]
          refine ⟨fun q => by omega, fun _ => ?_⟩
          rw [(ht (R i) a1).2, hma (R i) a1]
          refine sp_Po_pour hn (by omega) (ht (R i) a1).1 hp (fun to' ma' hp' => ?_)
          refine ihf (i + 1) to' ma' (by omega) (by omega) (plS_cg hp' (fun j hj => ?_) (fun j hj c _ => ?_))
          · try dsimp only
            by_cases c2 : j = b
            · subst c2
              rw [if_neg (Nat.lt_irrefl _), if_pos rfl, if_pos rfl, if_neg (Nat.lt_irrefl _), if_pos rfl, seg_s hr hsi (by omega)]
            · rw [if_neg c2, if_neg c2, if_neg c2]
          · try dsimp only
            by_cases c2 : j = b
            · subst c2
              rw [if_neg (Nat.lt_irrefl _), if_pos rfl, if_pos rfl, if_neg (Nat.lt_irrefl _), if_pos rfl]
              exact seg_s (f := fun k => M k * lev (C k) c) hr hsi (by omega)
            · rw [if_neg c2, if_neg c2, if_neg c2]
      refine inner (e b - s b) (s b) to ma (by omega) (Nat.le_refl _) (plS_cg hp (fun j hj => ?_) (fun j hj c _ => ?_))
      · try dsimp only
        rw [seg_0]
        by_cases c1 : j < b
        · rw [if_pos c1, if_pos c1]
        · rw [if_neg c1, if_neg c1]
          split <;> rfl
      · try dsimp only
        unfold tsum
        rw [seg_0]
        by_cases c1 : j < b
        · rw [if_pos c1, if_pos c1]
        · rw [if_neg c1, if_neg c1]
          split <;> rfl
  refine sp_Po_start hn (fun to' ma' hp => boxes n 0 to' ma' (by omega) (fun j hj => ?_))
  exact hp j (by omega)
