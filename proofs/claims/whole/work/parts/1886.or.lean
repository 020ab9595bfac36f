/-! the order of the palette -/
theorem nI_md (n : Nat) : nI n = nI (n % 4294967296) := by
  apply Int32.toBitVec_inj.1
  show BitVec.ofNat 32 n = BitVec.ofNat 32 (n % 4294967296)
  apply BitVec.eq_of_toNat_eq
  rw [BitVec.toNat_ofNat, BitVec.toNat_ofNat, Nat.mod_mod]
theorem lN_I {n : Nat} (h : n < 9223372036854775808) : (lN n).toInt = (n : Int) := by
  rw [lN_k, kI_i (by omega) (by omega)]
theorem key_ord {w t : Nat} (hw : w ≤ 576) (ht : t < 4294967296) : ((576 - nI w).toInt64 <<< ((32 : Int32).toInt64 &&& 63)) ||| ((nI t).toInt64 &&& 4294967295) = lN ((576 - w) * 4294967296 + t) := by
  rw [li_576, nz_sub hw, nI_l (by omega), lb_lo ht, lb_shl (k := 32) (by decide) (by omega)]
  exact lb_or (k := 32) (by omega) (by omega)
def ordF (z : Nat) (K FP : Nat → Nat) : Prop := ∃ F : Nat → Nat, (∀ i j, i < j → j < z → F i ≤ F j) ∧ (∀ t, cnt z (fun j => decide (F j < t)) = cnt z (fun j => decide (K j < t))) ∧ ∀ j, j < z → FP j = F j % 4294967296
theorem ordF_one {z : Nat} {K K' FP FP' : Nat → Nat} (h : ordF z K FP) (h' : ordF z K' FP') (e : ∀ j, j < z → K j = K' j) : ∀ j, j < z → FP j = FP' j := by
  obtain ⟨F, f1, f2, f3⟩ := h
  obtain ⟨F', g1, g2, g3⟩ := h'
  intro j hj
  rw [f3 j hj, g3 j hj, srt_one f1 g1 (fun t => by rw [f2, g2]; exact cnt_congr (fun i hi => by rw [e i hi])) j hj]
def okK (D : Nat) (C M : Nat → Nat) (z : Nat) (P : Nat → Nat) (j : Nat) : Nat := (576 - sm D (npb z P C j) M) * 4294967296 + P j
theorem sp_Fi_putInOrder {N D z : Nat} {rd st : Int32} {ta tk ti ma lv : Nat → Int32} {ke : Nat → Int64} {C M P : Nat → Nat} {post : (Nat → Int32) → (Nat → Int32) → (Nat → Int64) → (Nat → Int32) → Prop}
    (hN : N ≤ 576) (hDN : D ≤ N) (hz0 : 0 < z) (hz : z ≤ 64) (ht : ∀ k, k < D → C k < 4294967296 ∧ ti k = nI (C k)) (hma : ∀ k, k < D → ma k = nI (M k)) (hMt : tot D M ≤ 576) (hP : chs lv z P) (hta : ∀ k, k < D → ta k = nI (near z P (C k)))
    (h : ∀ FP ta' tk' ke' lv', ordF z (okK D C M z P) FP → chs lv' z FP → (∀ k, k < D → ta' k = nI (near z FP (C k))) → post ta' tk' ke' lv') : wpFi_putInOrder N 64 64 N N 256 rd ta tk ke (nI D) st ti ma (nI z) lv post := by
  unfold wpFi_putInOrder
  intro K10 K46 K109 h10 h46 h109
  have hW : ∀ j, sm D (npb z P C j) M ≤ 576 := fun j => Nat.le_trans (sm_all _ _ _) hMt
  have hK : ∀ j, j < z → okK D C M z P j < 9223372036854775808 := by
    intro j hj
    have := (hP j hj).1
    unfold okK
    omega
  have l109 : ∀ (FP : Nat → Nat) (tk : Nat → Int32) (ke : Nat → Int64), ordF z (okK D C M z P) FP → (∀ j, j < z → FP j < 4294967296 ∧ (ke j).toInt32 = nI (FP j)) → ∀ (d i : Nat) (lv : Nat → Int32), i + d = z → chs lv z (fun j => if j < i then FP j else P j) → K109 (nI i) ta tk ke lv := by
    intro FP tk ke ho hke d
    induction d with
    | zero =>
      intro i lv hi hlv
      have : i = z := by omega
      subst this
      apply h109
      unfold vcFi_putInOrder_109
      refine ⟨fun _ => ?_, fun q => absurd (nI_le (Nat.le_refl _) (by omega)) q⟩
      have hlv' : chs lv i FP := chs_cg hlv (fun j hj => by rw [if_pos hj])
      exact sp_Fi_takeClosest (C := C) (M := M) hN hDN hz0 hz ht hma hMt hlv' (fun ta' hta' => h _ _ _ _ _ ho hlv' hta')
    | succ d ih =>
      intro i lv hi hlv
      obtain ⟨k1, k2⟩ := hke i (by omega)
      apply h109
      unfold vcFi_putInOrder_109
      refine ⟨fun q => absurd q (nI_ge (by omega) (by omega)), fun _ => ⟨vp_in_nI (by omega) (by omega), ?_⟩⟩
      rw [nz_cl (by omega), k2]
      refine sp_replace (by omega) (by omega) k1 ?_
      rw [nI_1]
      refine ih (i + 1) _ (by omega) (chs_cg (chs_set hlv k1) (fun j hj => ?_))
      by_cases c : j = i
      · rw [if_pos c, if_pos (by omega), c]
      · rw [if_neg c]
        by_cases c2 : j < i
        · rw [if_pos c2, if_pos (by omega)]
        · rw [if_neg c2, if_neg (by omega)]
  have l46 : ∀ (tk : Nat → Int32), (∀ j, j < 64 → tk j = nI (sm D (npb z P C j) M)) → ∀ (d i : Nat) (ke : Nat → Int64), i + d = z → (∀ j, j < i → ke j = lN (okK D C M z P j)) → K46 (nI i) ta tk ke lv := by
    intro tk htk d
    induction d with
    | zero =>
      intro i ke hi hke
      have : i = z := by omega
      subst this
      apply h46
      unfold vcFi_putInOrder_46
      refine ⟨fun _ => ?_, fun q => absurd (nI_le (Nat.le_refl _) (by omega)) q⟩
      rw [li_0]
      refine sp_sortKeys (by omega) (by omega) (by omega) (by omega) (fun g hpm hso => ?_)
      obtain ⟨σ, ρ, s1, s2, s3⟩ := hpm
      have hg : ∀ j, j < i → σ j < i ∧ g j = lN (okK D C M i P (σ j)) := by
        intro j hj
        have := s1 j (by omega) hj
        exact ⟨this.1.2, by rw [this.2.2.2.2]; exact hke _ this.1.2⟩
      refine l109 (fun j => okK D C M i P (σ j) % 4294967296) tk g ⟨fun j => okK D C M i P (σ j), fun a b hab hb => ?_, fun t => ?_, fun j hj => rfl⟩ (fun j hj => ⟨Nat.mod_lt _ (by decide), ?_⟩) i 0 lv (by omega) (chs_cg hP (fun j hj => if_neg (Nat.not_lt_zero _)))
      · have e1 := hso a b (by omega) hab hb
        obtain ⟨a1, a2⟩ := hg a (by omega)
        obtain ⟨b1, b2⟩ := hg b hb
        have k1 := hK _ a1
        have k2 := hK _ b1
        rw [a2, b2, lN_I k1, lN_I k2] at e1
        exact Int.ofNat_le.mp e1
      · have e1 := s3 i (fun x => decide (x.toInt < (t : Int))) (Nat.le_refl _)
        rw [cnt_congr (n := i) (g := fun j => decide (okK D C M i P (σ j) < t)) (fun j hj => by
          obtain ⟨a1, a2⟩ := hg j hj
          have k1 := hK _ a1
          rw [a2, lN_I k1]
          exact decide_eq_decide.mpr (by omega)), cnt_congr (n := i) (f := fun j => decide ((ke j).toInt < (t : Int))) (g := fun j => decide (okK D C M i P j < t)) (fun j hj => by
          have k1 := hK _ hj
          try dsimp only
          rw [hke j hj, lN_I k1]
          exact decide_eq_decide.mpr (by omega))] at e1
        exact e1
      · rw [(hg j hj).2, lN_i]
        exact nI_md _
    | succ d ih =>
      intro i ke hi hke
      have hp := (hP i (by omega)).1
      apply h46
      unfold vcFi_putInOrder_46
      refine ⟨fun q => absurd q (nI_ge (by omega) (by omega)), fun _ => ⟨vp_in_nI (by omega) (by omega), ?_⟩⟩
      intro v hv
      rw [nz_cl (by omega), htk i (by omega)] at hv
      subst hv
      refine sp_packedOf (by omega) (show i < z by omega) (by omega) hP ⟨vp_in_nI (by omega) (by omega), ?_⟩
      rw [key_ord (hW i) hp, nz_cl (by omega), nI_1]
      refine ih (i + 1) _ (by omega) (fun j hj => ?_)
      by_cases c : j = i
      · rw [c]; exact pk_uLs
      · exact (pk_uLn c).trans (hke j (by omega))
  refine sp_Ar_fill (by omega) (fun tk0 htk0 => ?_)
  have l10 : ∀ (d k : Nat) (tk : Nat → Int32), k + d = D → (∀ j, j < 64 → tk j = nI (sm k (npb z P C j) M)) → K10 (nI k) ta tk ke lv := by
    intro d
    induction d with
    | zero =>
      intro k tk hk htk
      have : k = D := by omega
      subst this
      apply h10
      unfold vcFi_putInOrder_10
      exact ⟨fun _ => l46 tk htk z 0 ke (by omega) (fun j hj => absurd hj (Nat.not_lt_zero _)), fun q => absurd (nI_le (Nat.le_refl _) (by omega)) q⟩
    | succ d ih =>
      intro k tk hk htk
      have hl := near_lt (z := z) (P := P) (t := C k) hz0
      apply h10
      unfold vcFi_putInOrder_10
      refine ⟨fun q => absurd q (nI_ge (by omega) (by omega)), fun _ => ?_⟩
      simp (disch := omega) only [li_0, li_1, li_2, li_3, li_4, li_8, li_16, li_20, li_24, li_40, li_63, li_64, li_255, li_256, li_576, nI_add, pk_mul, nz_neg, nz_sub, nz_cl, nz_le, nz_lt, nz_eq, nz_in, nz_div, true_and, forall_eq, hta k (by omega), hma k (by omega), htk (near z P (C k)) (by omega)]
      refine ih (k + 1) _ (by omega) (fun j hj => ?_)
      rw [sm_s]
      by_cases e : j = near z P (C k)
      · rw [if_pos (npb_t.mpr e.symm), e]
        exact pk_us
      · rw [pk_un e, if_neg (fun q => e (npb_t.mp q).symm), Nat.add_zero]
        exact htk j hj
  exact l10 D 0 tk0 (by omega) (fun j hj => htk0 j hj)
/-! the model's order: it inserts -/
theorem cnt_ins {m x : Nat} {f : Nat → Bool} {o : Nat → Nat} : ∀ d, cnt (m + d + 1) (fun j => f (insf o m x j)) = cnt (m + d) (fun j => f (o j)) + if f x = true then 1 else 0 := by
  intro d
  induction d with
  | zero =>
    show cnt m (fun j => f (insf o m x j)) + (if f (insf o m x m) = true then 1 else 0) = _
    have e1 : insf o m x m = x := by unfold insf; rw [if_neg (Nat.lt_irrefl _), if_pos rfl]
    rw [e1, cnt_congr (g := fun j => f (o j)) (fun j hj => by show f (insf o m x j) = _; unfold insf; rw [if_pos hj])]
    rfl
  | succ d ih =>
    show cnt (m + d + 1) (fun j => f (insf o m x j)) + (if f (insf o m x (m + d + 1)) = true then 1 else 0) = (cnt (m + d) (fun j => f (o j)) + (if f (o (m + d)) = true then 1 else 0)) + _
    have e1 : insf o m x (m + d + 1) = o (m + d) := by unfold insf; rw [if_neg (by omega), if_neg (by omega)]; rfl
    rw [ih, e1]
    omega
theorem sp_Md_arrange {z : Nat} {a1 a2 a3 a4 a5 a6 a7 a8 : Int32} {pa tk od be : Nat → Int32} {P w : Nat → Nat} {post : (Nat → Int32) → (Nat → Int32) → (Nat → Int32) → Prop}
    (hz : z ≤ 64) (hP : chs pa z P) (hw : ∀ j, j < z → tk j = nI (w j) ∧ w j ≤ 576) (h : ∀ FP pa' od' be', ordF z (fun j => (576 - w j) * 4294967296 + P j) FP → chs pa' z FP → post pa' od' be') :
    wpMd_arrange 256 64 64 256 a1 a2 a3 a4 a5 a6 a7 (nI z) a8 pa tk od be post := by
  unfold wpMd_arrange
  intro K2 K12 K122 K155 h2 h12 h122 h155
  obtain ⟨ky, hky⟩ : ∃ ky : Nat → Nat, ky = fun j => (576 - w j) * 4294967296 + P j := ⟨_, rfl⟩
  have hkv : ∀ j, ky j = (576 - w j) * 4294967296 + P j := fun j => by rw [hky]
  rw [← hky] at h
  have hfin : ∀ (o : Nat → Nat) (od : Nat → Int32), (∀ i, i < z → od i = nI (o i) ∧ o i < z) → (∀ i j, i < j → j < z → ky (o i) ≤ ky (o j)) → (∀ t, cnt z (fun j => decide (ky (o j) < t)) = cnt z (fun j => decide (ky j < t))) → ∀ be, K122 (nI 0) pa od be := by
    intro o od ho hso hct be
    have hor : ordF z ky (fun j => P (o j)) := ⟨fun j => ky (o j), hso, hct, fun j hj => by
      have := (hP _ (ho j hj).2).1
      try dsimp only
      rw [hkv]
      omega⟩
    have l155 : ∀ (be : Nat → Int32), chs be z P → ∀ (d i : Nat) (pa : Nat → Int32), i + d = z → chs pa i (fun j => P (o j)) → K155 (nI i) pa od be := by
      intro be hbe d
      induction d with
      | zero =>
        intro i pa hi hpa
        have : i = z := by omega
        subst this
        apply h155
        unfold vcMd_arrange_155
        exact ⟨fun _ => h _ _ _ _ hor hpa, fun q => absurd (nI_le (Nat.le_refl _) (by omega)) q⟩
      | succ d ih =>
        intro i pa hi hpa
        obtain ⟨o1, o2⟩ := ho i (by omega)
        apply h155
        unfold vcMd_arrange_155
        refine ⟨fun q => absurd q (nI_ge (by omega) (by omega)), fun _ => ?_⟩
        simp (disch := omega) only [li_0, li_1, li_2, li_3, li_4, li_8, li_16, li_20, li_24, li_40, li_63, li_64, li_255, li_256, li_576, nI_add, pk_mul, nz_neg, nz_sub, nz_cl, nz_le, nz_lt, nz_eq, nz_in, nz_div, true_and, forall_eq, o1]
        refine sp_Md_copy (by omega) (by omega) (by omega) (by omega) (chs_A hbe o2) (ih (i + 1) _ (by omega) (chs_cg (chs_push hpa (hbe _ o2).1) (fun j hj => ?_)))
        by_cases c : j = i
        · rw [if_pos c, c]
        · rw [if_neg c]
    have l122 : ∀ (d i : Nat) (be : Nat → Int32), i + d = z → chs be i P → K122 (nI i) pa od be := by
      intro d
      induction d with
      | zero =>
        intro i be hi hbe
        have : i = z := by omega
        subst this
        apply h122
        unfold vcMd_arrange_122
        exact ⟨fun _ => l155 be hbe i 0 pa (by omega) (fun j hj => absurd hj (Nat.not_lt_zero _)), fun q => absurd (nI_le (Nat.le_refl _) (by omega)) q⟩
      | succ d ih =>
        intro i be hi hbe
        apply h122
        unfold vcMd_arrange_122
        refine ⟨fun q => absurd q (nI_ge (by omega) (by omega)), fun _ => ?_⟩
        simp (disch := omega) only [li_0, li_1, li_2, li_3, li_4, li_8, li_16, li_20, li_24, li_40, li_63, li_64, li_255, li_256, li_576, nI_add, pk_mul, nz_neg, nz_sub, nz_cl, nz_le, nz_lt, nz_eq, nz_in, nz_div, true_and, forall_eq]
        refine sp_Md_copy (by omega) (by omega) (by omega) (by omega) (chs_A hP (by omega)) (ih (i + 1) _ (by omega) (chs_cg (chs_push hbe (hP i (by omega)).1) (fun j hj => ?_)))
        by_cases c : j = i
        · rw [if_pos c, c]
        · rw [if_neg c]
    exact l122 z 0 be (by omega) (fun j hj => absurd hj (Nat.not_lt_zero _))
  have l2 : ∀ (d n : Nat) (o : Nat → Nat) (od : Nat → Int32), n + d = z → (∀ i, i < n → od i = nI (o i) ∧ o i < n) → (∀ i j, i < j → j < n → ky (o i) ≤ ky (o j)) → (∀ t, cnt n (fun j => decide (ky (o j) < t)) = cnt n (fun j => decide (ky j < t))) → K2 (nI n) pa od be := by
    intro d
    induction d with
    | zero =>
      intro n o od hn ho hso hct
      have : n = z := by omega
      subst this
      apply h2
      unfold vcMd_arrange_2
      exact ⟨fun _ => hfin o od ho hso hct be, fun q => absurd (nI_le (Nat.le_refl _) (by omega)) q⟩
    | succ d ih =>
      intro n o od hn ho hso hct
      have put : ∀ (m : Nat) (od' : Nat → Int32), m ≤ n → (∀ i, i < m → od' i = nI (o i)) → (∀ i, m < i → i ≤ n → od' i = nI (o (i - 1))) → (∀ i, m ≤ i → i < n → ky n < ky (o i)) → (0 < m → ky (o (m - 1)) ≤ ky n) → K2 (nI (n + 1)) pa (upd od' m (nI n)) be := by
        intro m od' hm h1 h2' h3 h4
        refine ih (n + 1) (insf o m n) _ (by omega) (fun i hi => ?_) (fun i j hij hj => ?_) (fun t => ?_)
        · unfold insf
          rcases Nat.lt_trichotomy i m with c | c | c
          · rw [if_pos c, pk_un (by omega)]
            exact ⟨h1 i c, by have := (ho i (by omega)).2; omega⟩
          · rw [if_neg (by omega), if_pos c, c]
            exact ⟨pk_us, by omega⟩
          · rw [if_neg (by omega), if_neg (by omega), pk_un (by omega)]
            exact ⟨h2' i c (by omega), by have := (ho (i - 1) (by omega)).2; omega⟩
        · unfold insf
          rcases Nat.lt_trichotomy i m with c | c | c
          · rw [if_pos c]
            rcases Nat.lt_trichotomy j m with c2 | c2 | c2
            · rw [if_pos c2]; exact hso i j hij (by omega)
            · rw [if_neg (by omega), if_pos c2]
              have e1 := h4 (by omega)
              by_cases e : i = m - 1
              · rw [e]; exact e1
              · exact Nat.le_trans (hso i (m - 1) (by omega) (by omega)) e1
            · rw [if_neg (by omega), if_neg (by omega)]
              by_cases e : i = j - 1
              · omega
              · exact hso i (j - 1) (by omega) (by omega)
          · rw [if_neg (by omega), if_pos c, if_neg (by omega), if_neg (by omega)]
            exact Nat.le_of_lt (h3 (j - 1) (by omega) (by omega))
          · rw [if_neg (by omega), if_neg (by omega), if_neg (by omega), if_neg (by omega)]
            exact hso (i - 1) (j - 1) (by omega) (by omega)
        · have := cnt_ins (m := m) (x := n) (f := fun i => decide (ky i < t)) (o := o) (n - m)
          rw [show m + (n - m) = n by omega] at this
          rw [this, hct t]
          rfl
      have l12 : ∀ (m : Nat) (od' : Nat → Int32), m ≤ n → (∀ i, i < m → od' i = nI (o i)) → (∀ i, m < i → i ≤ n → od' i = nI (o (i - 1))) → (∀ i, m ≤ i → i < n → ky n < ky (o i)) → K12 (nI n) (nI m) pa od' be := by
        intro m
        induction m with
        | zero =>
          intro od' hm h1 h2' h3
          apply h12
          unfold vcMd_arrange_12 vcMd_arrange_107
          refine ⟨fun _ => ⟨vp_in_nI (by omega) (by omega), ?_⟩, fun q => absurd (by decide) q⟩
          rw [nz_cl (by omega), nI_1]
          exact put 0 od' hm h1 h2' h3 (fun q => absurd q (Nat.lt_irrefl _))
        | succ m ihm =>
          intro od' hm h1 h2' h3
          obtain ⟨o1, o2⟩ := ho m (by omega)
          have e1 := h1 m (by omega)
          obtain ⟨w1, w2⟩ := hw n (by omega)
          obtain ⟨w3, w4⟩ := hw (o m) (by omega)
          have p1 := (hP n (by omega)).1
          have p2 := (hP (o m) (by omega)).1
          have k1 := hkv n
          have k2 := hkv (o m)
          have stop : ky (o m) ≤ ky n → vcMd_arrange_107 256 64 64 256 a1 a2 a3 a4 a5 a6 a7 (nI z) a8 tk K2 K12 K122 K155 post (nI n) (nI (m + 1)) pa od' be := by
            intro q
            unfold vcMd_arrange_107
            refine ⟨vp_in_nI (by omega) (by omega), ?_⟩
            rw [nz_cl (by omega), nI_1]
            exact put (m + 1) od' hm h1 h2' h3 (fun _ => q)
          have go : ky n < ky (o m) → vcMd_arrange_87 256 64 64 256 a1 a2 a3 a4 a5 a6 a7 (nI z) a8 tk K2 K12 K122 K155 post (nI n) (nI (m + 1)) pa od' be := by
            intro q
            unfold vcMd_arrange_87
            simp (disch := omega) only [li_0, li_1, li_2, li_3, li_4, li_8, li_16, li_20, li_24, li_40, li_63, li_64, li_255, li_256, li_576, nI_add, pk_mul, nz_neg, nz_sub, nz_cl, nz_le, nz_lt, nz_eq, nz_in, nz_div, true_and, forall_eq, Nat.add_sub_cancel, e1]
            refine ihm _ (by omega) (fun i hi => ?_) (fun i hi1 hi2 => ?_) (fun i hi1 hi2 => ?_)
            · rw [pk_un (by omega)]; exact h1 i (by omega)
            · by_cases c : i = m + 1
              · rw [c, pk_us]; rfl
              · rw [pk_un c]; exact h2' i (by omega) hi2
            · by_cases c : i = m
              · rw [c]; exact q
              · exact h3 i (by omega) hi2
          apply h12
          unfold vcMd_arrange_12
          simp (disch := omega) only [li_0, li_1, li_2, li_3, li_4, li_8, li_16, li_20, li_24, li_40, li_63, li_64, li_255, li_256, li_576, nI_add, pk_mul, nz_neg, nz_sub, nz_cl, nz_le, nz_lt, nz_eq, nz_in, nz_div, true_and, forall_eq, Nat.add_sub_cancel, e1, w1, w3]
          refine ⟨fun q => absurd q (by omega), fun _ => ⟨fun q => go (by omega), fun q => ⟨fun q2 => stop (by omega), fun q2 => ?_⟩⟩⟩
          refine sp_Md_compare__02 (by omega) (by omega) (by omega) p1 p2 (chs_A hP (by omega)) (chs_A hP (by omega)) (fun q3 => ?_) (fun q3 r hr => ?_) (fun q3 r hr => ?_)
          · exact ⟨fun _ => stop (by omega), fun q4 => absurd (by decide) q4⟩
          · refine ⟨fun q4 => absurd (Int32.lt_of_lt_of_le hr q4) (Int32.lt_irrefl), fun _ => go (by omega)⟩
          · refine ⟨fun _ => stop (by omega), fun q4 => absurd (Int32.le_of_lt hr) q4⟩
      apply h2
      unfold vcMd_arrange_2
      refine ⟨fun q => absurd q (nI_ge (by omega) (by omega)), fun _ => ?_⟩
      exact l12 n od (Nat.le_refl _) (fun i hi => (ho i hi).1) (fun i h1 h2 => by omega) (fun i h1 h2 => by omega)
  exact l2 z 0 (fun j => j) od (by omega) (fun i hi => absurd hi (Nat.not_lt_zero _)) (fun i j hij hj => absurd hj (Nat.not_lt_zero _)) (fun t => rfl)
