abbrev wdMd_givenCount (q_this q_isGiven r_samples r_gives r_colours r_many r_group r_row r_channelOf r_spreads r_boxMany r_there r_groupMany r_means r_sums r_palette r_has r_takers r_takenSums r_order r_before r_roundSums r_carried : Nat) (c_isGiven : ClassId) (n_isGiven : Nat) (f_thrown : Int32) (f_width : Int32) (f_height : Int32) (f_different : Int32) (f_groups : Int32) (f_rowSize : Int32) (f_ready : Int32) (f_size : Int32) (f_rounds : Int32) (f_isGiven : Nat → Int32) : va_W := [(q_this, .inr (8, [.int f_thrown, .int f_width, .int f_height, .ref r_samples, .ref q_isGiven, .ref r_gives, .int f_different, .ref r_colours, .ref r_many, .ref r_group, .int f_groups, .ref r_row, .int f_rowSize, .ref r_channelOf, .ref r_spreads, .ref r_boxMany, .ref r_there, .ref r_groupMany, .ref r_means, .ref r_sums, .int f_ready, .int f_size, .ref r_palette, .ref r_has, .ref r_takers, .ref r_takenSums, .ref r_order, .ref r_before, .int f_rounds, .ref r_roundSums, .ref r_carried])), (q_isGiven, .inl (c_isGiven, n_isGiven, .inl f_isGiven))]
set_option maxHeartbeats 4000000 in
set_option maxRecDepth 100000 in
theorem metMd_givenCount (l : Launch) (dC : Nat → ClassId) (dI : Nat → Nat → Nat) (q_this q_isGiven r_samples r_gives r_colours r_many r_group r_row r_channelOf r_spreads r_boxMany r_there r_groupMany r_means r_sums r_palette r_has r_takers r_takenSums r_order r_before r_roundSums r_carried : Nat) (c_isGiven : ClassId) (n_isGiven : Nat) (sz : Nat) (f_thrown : Int32) (f_width : Int32) (f_height : Int32) (f_different : Int32) (f_groups : Int32) (f_rowSize : Int32) (f_ready : Int32) (f_size : Int32) (f_rounds : Int32) (f_isGiven : Nat → Int32) {post : Int32 → Prop} (hw : wpMd_givenCount n_isGiven f_thrown f_width f_height f_different f_groups f_rowSize f_ready f_size f_rounds f_isGiven post) : Met l yMd_givenCount (.code yMd_givenCount bMd_givenCount 3 (some .int) :: BIG) ({ frames := 0, cells := 0, slots := 0, locals := 0 }) (va_Pc [.ref q_this] (gx_rpre (dC, dI) vwCl (wdMd_givenCount q_this q_isGiven r_samples r_gives r_colours r_many r_group r_row r_channelOf r_spreads r_boxMany r_there r_groupMany r_means r_sums r_palette r_has r_takers r_takenSums r_order r_before r_roundSums r_carried c_isGiven n_isGiven f_thrown f_width f_height f_different f_groups f_rowSize f_ready f_size f_rounds f_isGiven) [(c_isGiven, .boolean)] sz)) (va_Qi (fun r (u : Unit) => post r ) (fun _ _ => True) (fun q : Nat => sz ≤ q)) 0 0 (fun q : Nat => sz ≤ q) := by
  refine Met.ofW (cc := bMd_givenCount) (maxL := 3) (ret := (some .int)) (by decide) rfl ?_
  intro p e s m args below meth c s₁ B hml hv
  obtain ⟨rfl, hsz, hP, hK, hZ⟩ := hv
  have hx := B.exec
  have hb := B.bytes
  have hr := B.returns
  have hts := atoms_spec (ws := (.code yMd_givenCount bMd_givenCount 3 (some .int) :: BIG)) B.pre
  have hB : ∀ w ∈ BIG, w.before _ s = true := fun w h => hts w (List.mem_cons_of_mem _ h)
  have hown : s.vm.findClass RMd = some m.cls := findClass_of_methodNamed B.named
  have hlocks := B.notSynchronized
  subst hsz
  have hA : ∀ q : Nat, s.heap.size ≤ q → (fun q : Nat => s.heap.size ≤ q) q := fun _ h => h
  have hS : va_S (fun q : Nat => s.heap.size ≤ q) s.heap s.heap [] := va_S.rf
  have hl := lv_entry ([.ref q_this]) (n := 3) (Nat.le_of_ble_eq_true rfl)
  rw [lg_entry_eq]
  generalize (lg_sl ([.ref q_this]) ++ List.replicate (3 - (lg_sl ([.ref q_this])).length) Slot.unset).toArray = ls at hl ⊢
  have hl : lv_has ls 3 [(0, .ref q_this)] := hl
  have hL13 := (hB _ bw619)
  refine gx_abs (fun G eG => ?_)
  obtain ⟨K4, eK4⟩ : ∃ K : Int32 → Int32 → Prop, K = fun v1 v2 => ∀ (H : Heap) (locs : List Loc) (ls : Array Slot), va_P (dC, dI) vwCl (wdMd_givenCount q_this q_isGiven r_samples r_gives r_colours r_many r_group r_row r_channelOf r_spreads r_boxMany r_there r_groupMany r_means r_sums r_palette r_has r_takers r_takenSums r_order r_before r_roundSums r_carried c_isGiven n_isGiven f_thrown f_width f_height f_different f_groups f_rowSize f_ready f_size f_rounds f_isGiven) H → va_S (fun q : Nat => s.heap.size ≤ q) s.heap H locs → lv_has ls 3 [(0, .ref q_this), (1, .int v1), (2, .int v2)] → G H locs 0 0 (F0 m 4 ls []) := ⟨_, rfl⟩
  have j25 : ∀ (v2 : Int32) (s0 : Int32) (s1 : Int32), vcMd_givenCount_25 n_isGiven f_thrown f_width f_height f_different f_groups f_rowSize f_ready f_size f_rounds f_isGiven K4 post v2 s0 s1 → ∀ (H : Heap) (locs : List Loc) (ls : Array Slot), va_P (dC, dI) vwCl (wdMd_givenCount q_this q_isGiven r_samples r_gives r_colours r_many r_group r_row r_channelOf r_spreads r_boxMany r_there r_groupMany r_means r_sums r_palette r_has r_takers r_takenSums r_order r_before r_roundSums r_carried c_isGiven n_isGiven f_thrown f_width f_height f_different f_groups f_rowSize f_ready f_size f_rounds f_isGiven) H → va_S (fun q : Nat => s.heap.size ≤ q) s.heap H locs → lv_has ls 3 [(0, .ref q_this), (2, .int v2)] → G H locs 0 0 (F0 m 25 ls [.int s0, .int s1]) := by
    intro v2 s0 s1 hv H locs ls hP hS hl
    rw [eG]
    unfold vcMd_givenCount_25 at hv
    refine lv_iadd hx hb dMd_givenCount_25 ?_
    refine lv_topi (fun v1_1 ev1_1 => ?_)
    have hv := hv v1_1 ev1_1
    refine lv_istore_n (lv' := [(1, .int v1_1), (0, .ref q_this), (2, .int v2)]) hx hb dMd_givenCount_26 rfl hl (by decide) rfl (fun ls hl => ?_)
    refine lv_iinc (v := v2 + 1) (lv' := [(2, .int (v2 + 1)), (1, .int v1_1), (0, .ref q_this)]) hx hb dMd_givenCount_27 hl (k := 2) rfl rfl (by decide) rfl (fun ls hl => ?_)
    refine lv_goto (tgt := 4) hx hb dMd_givenCount_30 (by decide) ?_
    rw [eK4, eG] at hv
    exact hv _ _ _ hP hS (lv_sub hl [2, 1, 0] rfl)
  rw [eG] at j25
  unfold wpMd_givenCount at hw
  have hv := hw K4
  have hv := hv (by
    intro v1 v2 hv
    rw [eK4]
    intro H locs ls hP hS hl
    rw [eG]
    unfold vcMd_givenCount_4 at hv
    refine lv_iload_n hx hb dMd_givenCount_4 rfl (lv_at hl 2 rfl) ?_
    refine lv_bipush (v := 64) hx hb dMd_givenCount_5 (by decide) ?_
    refine lv_icmp_ge (tgt := 33) hx hb dMd_givenCount_7 (by decide) (fun c_2 => ?_) (fun c_2 => ?_)
    · have hv := hv.1 c_2
      refine lv_iload_n hx hb dMd_givenCount_33 rfl (lv_at hl 1 rfl) ?_
      exact W.iret (v := v1) hx hb hr (fun t ht hW => ⟨⟨_, (), rfl, hv, trivial⟩, hS.F ht⟩) hS.2.2 dMd_givenCount_34
    · have hv := hv.2 c_2
      refine lv_iload_n hx hb dMd_givenCount_10 rfl (lv_at hl 1 rfl) ?_
      refine lv_aload_n hx hb dMd_givenCount_11 rfl (lv_at hl 0 rfl) ?_
      refine va_get (D := (dC, dI)) (ci := 8) (v := .ref q_isGiven) (C := RMd) (T := TMd) (N := 31) hx hb hB hiMd hown hK hP 0 rfl rfl 4 (by decide) hL13 (fun _ h9 => h9) rfl dMd_givenCount_12 ?_
      refine lv_iload_n hx hb dMd_givenCount_15 rfl (lv_at hl 2 rfl) ?_
      obtain ⟨h_3, hv⟩ := hv
      refine va_zald hx hb hK hP 1 0 rfl rfl h_3 dMd_givenCount_16 ?_
      refine lv_if_eq (tgt := 24) hx hb dMd_givenCount_17 (by decide) (fun c_4 => ?_) (fun c_4 => ?_)
      · have hv := hv.1 c_4
        refine lv_iconst (v := 0) hx hb dMd_givenCount_24 (by decide) ?_
        exact j25 v2 0 v1 hv _ _ _ hP hS (lv_sub hl [0, 2] rfl)
      · have hv := hv.2 c_4
        refine lv_iconst (v := 1) hx hb dMd_givenCount_20 (by decide) ?_
        refine lv_goto (tgt := 25) hx hb dMd_givenCount_21 (by decide) ?_
        exact j25 v2 1 v1 hv _ _ _ hP hS (lv_sub hl [0, 2] rfl))
  rw [eG]
  refine lv_iconst (v := 0) hx hb dMd_givenCount_0 (by decide) ?_
  refine lv_istore_n (lv' := [(1, .int 0), (0, .ref q_this)]) hx hb dMd_givenCount_1 rfl hl (by decide) rfl (fun ls hl => ?_)
  refine lv_iconst (v := 0) hx hb dMd_givenCount_2 (by decide) ?_
  refine lv_istore_n (lv' := [(2, .int 0), (1, .int 0), (0, .ref q_this)]) hx hb dMd_givenCount_3 rfl hl (by decide) rfl (fun ls hl => ?_)
  rw [eK4, eG] at hv
  exact hv _ _ _ hP hS (lv_sub hl [2, 1, 0] rfl)
abbrev wdMd_given (q_this q_isGiven q_gives r_samples r_colours r_many r_group r_row r_channelOf r_spreads r_boxMany r_there r_groupMany r_means r_sums r_palette r_has r_takers r_takenSums r_order r_before r_roundSums r_carried : Nat) (c_isGiven c_gives : ClassId) (n_isGiven n_gives : Nat) (f_thrown : Int32) (f_width : Int32) (f_height : Int32) (f_different : Int32) (f_groups : Int32) (f_rowSize : Int32) (f_ready : Int32) (f_size : Int32) (f_rounds : Int32) (f_isGiven : Nat → Int32) (f_gives : Nat → Int32) : va_W := [(q_this, .inr (8, [.int f_thrown, .int f_width, .int f_height, .ref r_samples, .ref q_isGiven, .ref q_gives, .int f_different, .ref r_colours, .ref r_many, .ref r_group, .int f_groups, .ref r_row, .int f_rowSize, .ref r_channelOf, .ref r_spreads, .ref r_boxMany, .ref r_there, .ref r_groupMany, .ref r_means, .ref r_sums, .int f_ready, .int f_size, .ref r_palette, .ref r_has, .ref r_takers, .ref r_takenSums, .ref r_order, .ref r_before, .int f_rounds, .ref r_roundSums, .ref r_carried])), (q_isGiven, .inl (c_isGiven, n_isGiven, .inl f_isGiven)), (q_gives, .inl (c_gives, n_gives, .inl f_gives))]
set_option maxHeartbeats 4000000 in
set_option maxRecDepth 100000 in
theorem metMd_given (l : Launch) (dC : Nat → ClassId) (dI : Nat → Nat → Nat) (q_this q_isGiven q_gives r_samples r_colours r_many r_group r_row r_channelOf r_spreads r_boxMany r_there r_groupMany r_means r_sums r_palette r_has r_takers r_takenSums r_order r_before r_roundSums r_carried : Nat) (c_isGiven c_gives : ClassId) (n_isGiven n_gives : Nat) (sz : Nat) (f_thrown : Int32) (f_width : Int32) (f_height : Int32) (f_different : Int32) (f_groups : Int32) (f_rowSize : Int32) (f_ready : Int32) (f_size : Int32) (f_rounds : Int32) (f_isGiven : Nat → Int32) (f_gives : Nat → Int32) (x1 : Int32) (x2 : Int32) (x3 : Int32) (x4 : Int32) (x5 : Int32) {post : Int32 → Int32 → (Nat → Int32) → (Nat → Int32) → Prop} (hw : wpMd_given n_isGiven n_gives f_thrown f_width f_height f_different f_groups f_rowSize f_ready f_size f_rounds f_isGiven f_gives x1 x2 x3 x4 x5 post) : Met l yMd_given (.code yMd_given bMd_given 6 (some .int) :: BIG) ({ frames := 2, cells := 0, slots := 0, locals := 43 }) (va_Pc [.ref q_this, .int x1, .int x2, .int x3, .int x4, .int x5] (gx_pre (dC, dI) vwCl (wdMd_given q_this q_isGiven q_gives r_samples r_colours r_many r_group r_row r_channelOf r_spreads r_boxMany r_there r_groupMany r_means r_sums r_palette r_has r_takers r_takenSums r_order r_before r_roundSums r_carried c_isGiven c_gives n_isGiven n_gives f_thrown f_width f_height f_different f_groups f_rowSize f_ready f_size f_rounds f_isGiven f_gives) [(c_isGiven, .boolean), (c_gives, .int)] sz)) (va_Qi (fun r (u : Int32 × (Nat → Int32) × (Nat → Int32)) => post r u.1 u.2.1 u.2.2) (gx_B (dC, dI) vwCl (va_A (wdMd_given q_this q_isGiven q_gives r_samples r_colours r_many r_group r_row r_channelOf r_spreads r_boxMany r_there r_groupMany r_means r_sums r_palette r_has r_takers r_takenSums r_order r_before r_roundSums r_carried c_isGiven c_gives n_isGiven n_gives f_thrown f_width f_height f_different f_groups f_rowSize f_ready f_size f_rounds f_isGiven f_gives) sz) (fun (u : Int32 × (Nat → Int32) × (Nat → Int32)) => (wdMd_given q_this q_isGiven q_gives r_samples r_colours r_many r_group r_row r_channelOf r_spreads r_boxMany r_there r_groupMany r_means r_sums r_palette r_has r_takers r_takenSums r_order r_before r_roundSums r_carried c_isGiven c_gives n_isGiven n_gives u.1 f_width f_height f_different f_groups f_rowSize f_ready f_size f_rounds u.2.1 u.2.2))) (va_A (wdMd_given q_this q_isGiven q_gives r_samples r_colours r_many r_group r_row r_channelOf r_spreads r_boxMany r_there r_groupMany r_means r_sums r_palette r_has r_takers r_takenSums r_order r_before r_roundSums r_carried c_isGiven c_gives n_isGiven n_gives f_thrown f_width f_height f_different f_groups f_rowSize f_ready f_size f_rounds f_isGiven f_gives) sz)) 0 0 (va_A (wdMd_given q_this q_isGiven q_gives r_samples r_colours r_many r_group r_row r_channelOf r_spreads r_boxMany r_there r_groupMany r_means r_sums r_palette r_has r_takers r_takenSums r_order r_before r_roundSums r_carried c_isGiven c_gives n_isGiven n_gives f_thrown f_width f_height f_different f_groups f_rowSize f_ready f_size f_rounds f_isGiven f_gives) sz) := by
  refine Met.ofW (cc := bMd_given) (maxL := 6) (ret := (some .int)) (by decide) rfl ?_
  intro p e s m args below meth c s₁ B hml hv
  obtain ⟨rfl, hsz, hP, hK, hD0, hZ⟩ := hv
  have hx := B.exec
  have hb := B.bytes
  have hr := B.returns
  have hts := atoms_spec (ws := (.code yMd_given bMd_given 6 (some .int) :: BIG)) B.pre
  have hB : ∀ w ∈ BIG, w.before _ s = true := fun w h => hts w (List.mem_cons_of_mem _ h)
  have hown : s.vm.findClass RMd = some m.cls := findClass_of_methodNamed B.named
  have hlocks := B.notSynchronized
  subst hsz
  have hD := hD0.self (sz := s.heap.size)
  generalize hAe : va_A (wdMd_given q_this q_isGiven q_gives r_samples r_colours r_many r_group r_row r_channelOf r_spreads r_boxMany r_there r_groupMany r_means r_sums r_palette r_has r_takers r_takenSums r_order r_before r_roundSums r_carried c_isGiven c_gives n_isGiven n_gives f_thrown f_width f_height f_different f_groups f_rowSize f_ready f_size f_rounds f_isGiven f_gives) s.heap.size = A at hD hZ ⊢
  have hA : ∀ q : Nat, s.heap.size ≤ q → A q := fun q h => by rw [← hAe]; exact Or.inr h
  have hS : va_S A s.heap s.heap [] := va_S.rf
  have hl := lv_entry ([.ref q_this, .int x1, .int x2, .int x3, .int x4, .int x5]) (n := 6) (Nat.le_of_ble_eq_true rfl)
  rw [lg_entry_eq]
  generalize (lg_sl ([.ref q_this, .int x1, .int x2, .int x3, .int x4, .int x5]) ++ List.replicate (6 - (lg_sl ([.ref q_this, .int x1, .int x2, .int x3, .int x4, .int x5])).length) Slot.unset).toArray = ls at hl ⊢
  have hl : lv_has ls 6 [(0, .ref q_this), (1, .int x1), (2, .int x2), (3, .int x3), (4, .int x4), (5, .int x5)] := hl
  have hL13 := (hB _ bw619)
  have hL17 := (hB _ bw620)
  have hL85 := (hB _ bw615)
  refine gx_abs (fun G eG => ?_)
  have j64 : ∀ (s0 : Int32) (s1 : Int32) (f_thrown : Int32) (f_isGiven : Nat → Int32) (f_gives : Nat → Int32), vcMd_given_64 n_isGiven n_gives f_width f_height f_different f_groups f_rowSize f_ready f_size f_rounds x1 x2 x3 x4 x5 post s0 s1 f_thrown f_isGiven f_gives → ∀ (H : Heap) (locs : List Loc) (ls : Array Slot), va_P (dC, dI) vwCl (wdMd_given q_this q_isGiven q_gives r_samples r_colours r_many r_group r_row r_channelOf r_spreads r_boxMany r_there r_groupMany r_means r_sums r_palette r_has r_takers r_takenSums r_order r_before r_roundSums r_carried c_isGiven c_gives n_isGiven n_gives f_thrown f_width f_height f_different f_groups f_rowSize f_ready f_size f_rounds f_isGiven f_gives) H → va_D A (wdMd_given q_this q_isGiven q_gives r_samples r_colours r_many r_group r_row r_channelOf r_spreads r_boxMany r_there r_groupMany r_means r_sums r_palette r_has r_takers r_takenSums r_order r_before r_roundSums r_carried c_isGiven c_gives n_isGiven n_gives f_thrown f_width f_height f_different f_groups f_rowSize f_ready f_size f_rounds f_isGiven f_gives) → va_S A s.heap H locs → lv_has ls 6 [(0, .ref q_this), (1, .int x1), (2, .int x2), (3, .int x3), (4, .int x4), (5, .int x5)] → G H locs 0 0 (F0 m 64 ls [.int s0, .int s1, .ref q_isGiven]) := by
    intro s0 s1 f_thrown f_isGiven f_gives hv H locs ls hP hD hS hl
    rw [eG]
    unfold vcMd_given_64 at hv
    obtain ⟨h_1, hv⟩ := hv
    refine va_zast hx hb hK hP hD hS 1 0 rfl rfl h_1 dMd_given_64 (fun H locs hP hD hS => ?_)
    have hP : va_P (dC, dI) vwCl (wdMd_given q_this q_isGiven q_gives r_samples r_colours r_many r_group r_row r_channelOf r_spreads r_boxMany r_there r_groupMany r_means r_sums r_palette r_has r_takers r_takenSums r_order r_before r_roundSums r_carried c_isGiven c_gives n_isGiven n_gives f_thrown f_width f_height f_different f_groups f_rowSize f_ready f_size f_rounds (upd f_isGiven s1.toNatClampNeg (vp_nar .boolean s0)) f_gives) H := hP
    have hD : va_D A (wdMd_given q_this q_isGiven q_gives r_samples r_colours r_many r_group r_row r_channelOf r_spreads r_boxMany r_there r_groupMany r_means r_sums r_palette r_has r_takers r_takenSums r_order r_before r_roundSums r_carried c_isGiven c_gives n_isGiven n_gives f_thrown f_width f_height f_different f_groups f_rowSize f_ready f_size f_rounds (upd f_isGiven s1.toNatClampNeg (vp_nar .boolean s0)) f_gives) := hD
    refine lv_aload_n hx hb dMd_given_65 rfl (lv_at hl 0 rfl) ?_
    refine va_get (D := (dC, dI)) (ci := 8) (v := .ref q_gives) (C := RMd) (T := TMd) (N := 31) hx hb hB hiMd hown hK hP 0 rfl rfl 5 (by decide) hL17 (fun _ h9 => h9) rfl dMd_given_66 ?_
    refine lv_iconst (v := 4) hx hb dMd_given_69 (by decide) ?_
    refine lv_iload_n hx hb dMd_given_70 rfl (lv_at hl 1 rfl) ?_
    refine lv_imul hx hb dMd_given_71 ?_
    refine lv_iload_n hx hb dMd_given_72 rfl (lv_at hl 2 rfl) ?_
    obtain ⟨h_3, hv⟩ := hv
    refine va_iast hx hb hK hP hD hS 2 1 rfl rfl h_3 dMd_given_73 (fun H locs hP hD hS => ?_)
    have hP : va_P (dC, dI) vwCl (wdMd_given q_this q_isGiven q_gives r_samples r_colours r_many r_group r_row r_channelOf r_spreads r_boxMany r_there r_groupMany r_means r_sums r_palette r_has r_takers r_takenSums r_order r_before r_roundSums r_carried c_isGiven c_gives n_isGiven n_gives f_thrown f_width f_height f_different f_groups f_rowSize f_ready f_size f_rounds (upd f_isGiven s1.toNatClampNeg (vp_nar .boolean s0)) (upd f_gives (4 * x1).toNatClampNeg x2)) H := hP
    have hD : va_D A (wdMd_given q_this q_isGiven q_gives r_samples r_colours r_many r_group r_row r_channelOf r_spreads r_boxMany r_there r_groupMany r_means r_sums r_palette r_has r_takers r_takenSums r_order r_before r_roundSums r_carried c_isGiven c_gives n_isGiven n_gives f_thrown f_width f_height f_different f_groups f_rowSize f_ready f_size f_rounds (upd f_isGiven s1.toNatClampNeg (vp_nar .boolean s0)) (upd f_gives (4 * x1).toNatClampNeg x2)) := hD
    refine lv_aload_n hx hb dMd_given_74 rfl (lv_at hl 0 rfl) ?_
    refine va_get (D := (dC, dI)) (ci := 8) (v := .ref q_gives) (C := RMd) (T := TMd) (N := 31) hx hb hB hiMd hown hK hP 0 rfl rfl 5 (by decide) hL17 (fun _ h9 => h9) rfl dMd_given_75 ?_
    refine lv_iconst (v := 4) hx hb dMd_given_78 (by decide) ?_
    refine lv_iload_n hx hb dMd_given_79 rfl (lv_at hl 1 rfl) ?_
    refine lv_imul hx hb dMd_given_80 ?_
    refine lv_iconst (v := 1) hx hb dMd_given_81 (by decide) ?_
    refine lv_iadd hx hb dMd_given_82 ?_
    refine lv_iload_n hx hb dMd_given_83 rfl (lv_at hl 3 rfl) ?_
    obtain ⟨h_5, hv⟩ := hv
    refine va_iast hx hb hK hP hD hS 2 1 rfl rfl h_5 dMd_given_84 (fun H locs hP hD hS => ?_)
    have hP : va_P (dC, dI) vwCl (wdMd_given q_this q_isGiven q_gives r_samples r_colours r_many r_group r_row r_channelOf r_spreads r_boxMany r_there r_groupMany r_means r_sums r_palette r_has r_takers r_takenSums r_order r_before r_roundSums r_carried c_isGiven c_gives n_isGiven n_gives f_thrown f_width f_height f_different f_groups f_rowSize f_ready f_size f_rounds (upd f_isGiven s1.toNatClampNeg (vp_nar .boolean s0)) (upd (upd f_gives (4 * x1).toNatClampNeg x2) ((4 * x1) + 1).toNatClampNeg x3)) H := hP
    have hD : va_D A (wdMd_given q_this q_isGiven q_gives r_samples r_colours r_many r_group r_row r_channelOf r_spreads r_boxMany r_there r_groupMany r_means r_sums r_palette r_has r_takers r_takenSums r_order r_before r_roundSums r_carried c_isGiven c_gives n_isGiven n_gives f_thrown f_width f_height f_different f_groups f_rowSize f_ready f_size f_rounds (upd f_isGiven s1.toNatClampNeg (vp_nar .boolean s0)) (upd (upd f_gives (4 * x1).toNatClampNeg x2) ((4 * x1) + 1).toNatClampNeg x3)) := hD
    refine lv_aload_n hx hb dMd_given_85 rfl (lv_at hl 0 rfl) ?_
    refine va_get (D := (dC, dI)) (ci := 8) (v := .ref q_gives) (C := RMd) (T := TMd) (N := 31) hx hb hB hiMd hown hK hP 0 rfl rfl 5 (by decide) hL17 (fun _ h9 => h9) rfl dMd_given_86 ?_
    refine lv_iconst (v := 4) hx hb dMd_given_89 (by decide) ?_
    refine lv_iload_n hx hb dMd_given_90 rfl (lv_at hl 1 rfl) ?_
    refine lv_imul hx hb dMd_given_91 ?_
    refine lv_iconst (v := 2) hx hb dMd_given_92 (by decide) ?_
    refine lv_iadd hx hb dMd_given_93 ?_
    refine lv_iload hx hb dMd_given_94 (lv_at hl 4 rfl) ?_
    obtain ⟨h_7, hv⟩ := hv
    refine va_iast hx hb hK hP hD hS 2 1 rfl rfl h_7 dMd_given_96 (fun H locs hP hD hS => ?_)
    have hP : va_P (dC, dI) vwCl (wdMd_given q_this q_isGiven q_gives r_samples r_colours r_many r_group r_row r_channelOf r_spreads r_boxMany r_there r_groupMany r_means r_sums r_palette r_has r_takers r_takenSums r_order r_before r_roundSums r_carried c_isGiven c_gives n_isGiven n_gives f_thrown f_width f_height f_different f_groups f_rowSize f_ready f_size f_rounds (upd f_isGiven s1.toNatClampNeg (vp_nar .boolean s0)) (upd (upd (upd f_gives (4 * x1).toNatClampNeg x2) ((4 * x1) + 1).toNatClampNeg x3) ((4 * x1) + 2).toNatClampNeg x4)) H := hP
    have hD : va_D A (wdMd_given q_this q_isGiven q_gives r_samples r_colours r_many r_group r_row r_channelOf r_spreads r_boxMany r_there r_groupMany r_means r_sums r_palette r_has r_takers r_takenSums r_order r_before r_roundSums r_carried c_isGiven c_gives n_isGiven n_gives f_thrown f_width f_height f_different f_groups f_rowSize f_ready f_size f_rounds (upd f_isGiven s1.toNatClampNeg (vp_nar .boolean s0)) (upd (upd (upd f_gives (4 * x1).toNatClampNeg x2) ((4 * x1) + 1).toNatClampNeg x3) ((4 * x1) + 2).toNatClampNeg x4)) := hD
    refine lv_aload_n hx hb dMd_given_97 rfl (lv_at hl 0 rfl) ?_
    refine va_get (D := (dC, dI)) (ci := 8) (v := .ref q_gives) (C := RMd) (T := TMd) (N := 31) hx hb hB hiMd hown hK hP 0 rfl rfl 5 (by decide) hL17 (fun _ h9 => h9) rfl dMd_given_98 ?_
    refine lv_iconst (v := 4) hx hb dMd_given_101 (by decide) ?_
    refine lv_iload_n hx hb dMd_given_102 rfl (lv_at hl 1 rfl) ?_
    refine lv_imul hx hb dMd_given_103 ?_
    refine lv_iconst (v := 3) hx hb dMd_given_104 (by decide) ?_
    refine lv_iadd hx hb dMd_given_105 ?_
    refine lv_iload hx hb dMd_given_106 (lv_at hl 5 rfl) ?_
    obtain ⟨h_9, hv⟩ := hv
    refine va_iast hx hb hK hP hD hS 2 1 rfl rfl h_9 dMd_given_108 (fun H locs hP hD hS => ?_)
    have hP : va_P (dC, dI) vwCl (wdMd_given q_this q_isGiven q_gives r_samples r_colours r_many r_group r_row r_channelOf r_spreads r_boxMany r_there r_groupMany r_means r_sums r_palette r_has r_takers r_takenSums r_order r_before r_roundSums r_carried c_isGiven c_gives n_isGiven n_gives f_thrown f_width f_height f_different f_groups f_rowSize f_ready f_size f_rounds (upd f_isGiven s1.toNatClampNeg (vp_nar .boolean s0)) (upd (upd (upd (upd f_gives (4 * x1).toNatClampNeg x2) ((4 * x1) + 1).toNatClampNeg x3) ((4 * x1) + 2).toNatClampNeg x4) ((4 * x1) + 3).toNatClampNeg x5)) H := hP
    have hD : va_D A (wdMd_given q_this q_isGiven q_gives r_samples r_colours r_many r_group r_row r_channelOf r_spreads r_boxMany r_there r_groupMany r_means r_sums r_palette r_has r_takers r_takenSums r_order r_before r_roundSums r_carried c_isGiven c_gives n_isGiven n_gives f_thrown f_width f_height f_different f_groups f_rowSize f_ready f_size f_rounds (upd f_isGiven s1.toNatClampNeg (vp_nar .boolean s0)) (upd (upd (upd (upd f_gives (4 * x1).toNatClampNeg x2) ((4 * x1) + 1).toNatClampNeg x3) ((4 * x1) + 2).toNatClampNeg x4) ((4 * x1) + 3).toNatClampNeg x5)) := hD
    refine lv_aload_n hx hb dMd_given_109 rfl (lv_at hl 0 rfl) ?_
    refine gx_ri (va_runV (As := []) (rest := []) ⟨hx, hb, hml, hown, hB⟩ (metMd_givenCount l dC dI q_this q_isGiven r_samples q_gives r_colours r_many r_group r_row r_channelOf r_spreads r_boxMany r_there r_groupMany r_means r_sums r_palette r_has r_takers r_takenSums r_order r_before r_roundSums r_carried c_isGiven n_isGiven H.size f_thrown f_width f_height f_different f_groups f_rowSize f_ready f_size f_rounds (upd f_isGiven s1.toNatClampNeg (vp_nar .boolean s0)) hv) (cwV 0 hB (gx_gV bw706 bw707 bw25 bw53 bw708) rfl rfl rfl (by decide +kernel) ⟨(Nat.le_of_ble_eq_true rfl), (Nat.le_of_ble_eq_true rfl)⟩) (gx_rpreV (ci := 8) (hP.sub (ws' := (wdMd_givenCount q_this q_isGiven r_samples q_gives r_colours r_many r_group r_row r_channelOf r_spreads r_boxMany r_there r_groupMany r_means r_sums r_palette r_has r_takers r_takenSums r_order r_before r_roundSums r_carried c_isGiven n_isGiven f_thrown f_width f_height f_different f_groups f_rowSize f_ready f_size f_rounds (upd f_isGiven s1.toNatClampNeg (vp_nar .boolean s0)))) [0, 1] rfl) (hK.sub (tys' := [(c_isGiven, .boolean)]) [0] rfl) hZ hS hA rfl rfl) rfl rfl hl.1 rfl (lv_room (Nat.le_of_ble_eq_true rfl)) dMd_given_110 ⟨(Nat.le_of_ble_eq_true rfl), (Nat.le_of_ble_eq_true rfl)⟩) hP hS hA (fun r_11 H locs hv hP hS => ?_)
    exact W.iret (v := r_11) hx hb hr (fun t ht hW => ⟨⟨_, (f_thrown, upd f_isGiven s1.toNatClampNeg (vp_nar .boolean s0), upd (upd (upd (upd f_gives (4 * x1).toNatClampNeg x2) ((4 * x1) + 1).toNatClampNeg x3) ((4 * x1) + 2).toNatClampNeg x4) ((4 * x1) + 3).toNatClampNeg x5), rfl, hv, by rw [ht]; exact hP, hD⟩, hS.F ht⟩) hS.2.2 dMd_given_113
  rw [eG] at j64
  have j37 : ∀ (s0 : Int32), vcMd_given_37 n_isGiven n_gives f_width f_height f_different f_groups f_rowSize f_ready f_size f_rounds x1 x2 x3 x4 x5 post s0 f_thrown f_isGiven f_gives → ∀ (H : Heap) (locs : List Loc) (ls : Array Slot), va_P (dC, dI) vwCl (wdMd_given q_this q_isGiven q_gives r_samples r_colours r_many r_group r_row r_channelOf r_spreads r_boxMany r_there r_groupMany r_means r_sums r_palette r_has r_takers r_takenSums r_order r_before r_roundSums r_carried c_isGiven c_gives n_isGiven n_gives f_thrown f_width f_height f_different f_groups f_rowSize f_ready f_size f_rounds f_isGiven f_gives) H → va_D A (wdMd_given q_this q_isGiven q_gives r_samples r_colours r_many r_group r_row r_channelOf r_spreads r_boxMany r_there r_groupMany r_means r_sums r_palette r_has r_takers r_takenSums r_order r_before r_roundSums r_carried c_isGiven c_gives n_isGiven n_gives f_thrown f_width f_height f_different f_groups f_rowSize f_ready f_size f_rounds f_isGiven f_gives) → va_S A s.heap H locs → lv_has ls 6 [(0, .ref q_this), (1, .int x1), (2, .int x2), (3, .int x3), (4, .int x4), (5, .int x5)] → G H locs 0 0 (F0 m 37 ls [.int s0, .ref q_this]) := by
    intro s0 hv H locs ls hP hD hS hl
    rw [eG]
    unfold vcMd_given_37 at hv
    refine va_put (D := (dC, dI)) (ci := 8) (v := .int s0) (ty := .int) (C := RMd) (T := TMd) (N := 31) hx hb hB hiMd tMd tMd_ok nMd hown hK hP hD hS 0 rfl rfl 0 (by decide) hL85 (fun _ h9 => h9) rfl (by decide +kernel) rfl rfl (Nat.le_of_ble_eq_true rfl) dMd_given_37 (fun H locs hP hD hS => ?_)
    have hP : va_P (dC, dI) vwCl (wdMd_given q_this q_isGiven q_gives r_samples r_colours r_many r_group r_row r_channelOf r_spreads r_boxMany r_there r_groupMany r_means r_sums r_palette r_has r_takers r_takenSums r_order r_before r_roundSums r_carried c_isGiven c_gives n_isGiven n_gives s0 f_width f_height f_different f_groups f_rowSize f_ready f_size f_rounds f_isGiven f_gives) H := hP
    have hD : va_D A (wdMd_given q_this q_isGiven q_gives r_samples r_colours r_many r_group r_row r_channelOf r_spreads r_boxMany r_there r_groupMany r_means r_sums r_palette r_has r_takers r_takenSums r_order r_before r_roundSums r_carried c_isGiven c_gives n_isGiven n_gives s0 f_width f_height f_different f_groups f_rowSize f_ready f_size f_rounds f_isGiven f_gives) := hD
    refine lv_aload_n hx hb dMd_given_40 rfl (lv_at hl 0 rfl) ?_
    refine va_get (D := (dC, dI)) (ci := 8) (v := .int s0) (C := RMd) (T := TMd) (N := 31) hx hb hB hiMd hown hK hP 0 rfl rfl 0 (by decide) hL85 (fun _ h9 => h9) rfl dMd_given_41 ?_
    refine lv_if_le (tgt := 49) hx hb dMd_given_44 (by decide) (fun c_13 => ?_) (fun c_13 => ?_)
    · have hv := hv.1 c_13
      refine lv_aload_n hx hb dMd_given_49 rfl (lv_at hl 0 rfl) ?_
      refine va_get (D := (dC, dI)) (ci := 8) (v := .ref q_isGiven) (C := RMd) (T := TMd) (N := 31) hx hb hB hiMd hown hK hP 0 rfl rfl 4 (by decide) hL13 (fun _ h9 => h9) rfl dMd_given_50 ?_
      refine lv_iload_n hx hb dMd_given_53 rfl (lv_at hl 1 rfl) ?_
      refine lv_iload_n hx hb dMd_given_54 rfl (lv_at hl 2 rfl) ?_
      refine lv_iconst (v := (-1)) hx hb dMd_given_55 (by decide) ?_
      refine lv_icmp_eq (tgt := 63) hx hb dMd_given_56 (by decide) (fun c_14 => ?_) (fun c_14 => ?_)
      · have hv := hv.1 c_14
        refine lv_iconst (v := 0) hx hb dMd_given_63 (by decide) ?_
        exact j64 0 x1 s0 f_isGiven f_gives hv _ _ _ hP hD hS (lv_sub hl [0, 1, 2, 3, 4, 5] rfl)
      · have hv := hv.2 c_14
        refine lv_iconst (v := 1) hx hb dMd_given_59 (by decide) ?_
        refine lv_goto (tgt := 64) hx hb dMd_given_60 (by decide) ?_
        exact j64 1 x1 s0 f_isGiven f_gives hv _ _ _ hP hD hS (lv_sub hl [0, 1, 2, 3, 4, 5] rfl)
    · have hv := hv.2 c_13
      refine lv_iconst (v := 0) hx hb dMd_given_47 (by decide) ?_
      exact W.iret (v := 0) hx hb hr (fun t ht hW => ⟨⟨_, (s0, f_isGiven, f_gives), rfl, hv, by rw [ht]; exact hP, hD⟩, hS.F ht⟩) hS.2.2 dMd_given_48
  rw [eG] at j37
  have j11 : vcMd_given_11 n_isGiven n_gives f_width f_height f_different f_groups f_rowSize f_ready f_size f_rounds x1 x2 x3 x4 x5 post f_thrown f_isGiven f_gives → ∀ (H : Heap) (locs : List Loc) (ls : Array Slot), va_P (dC, dI) vwCl (wdMd_given q_this q_isGiven q_gives r_samples r_colours r_many r_group r_row r_channelOf r_spreads r_boxMany r_there r_groupMany r_means r_sums r_palette r_has r_takers r_takenSums r_order r_before r_roundSums r_carried c_isGiven c_gives n_isGiven n_gives f_thrown f_width f_height f_different f_groups f_rowSize f_ready f_size f_rounds f_isGiven f_gives) H → va_D A (wdMd_given q_this q_isGiven q_gives r_samples r_colours r_many r_group r_row r_channelOf r_spreads r_boxMany r_there r_groupMany r_means r_sums r_palette r_has r_takers r_takenSums r_order r_before r_roundSums r_carried c_isGiven c_gives n_isGiven n_gives f_thrown f_width f_height f_different f_groups f_rowSize f_ready f_size f_rounds f_isGiven f_gives) → va_S A s.heap H locs → lv_has ls 6 [(0, .ref q_this), (1, .int x1), (2, .int x2), (3, .int x3), (4, .int x4), (5, .int x5)] → G H locs 0 0 (F0 m 11 ls [.ref q_this]) := by
    intro  hv H locs ls hP hD hS hl
    rw [eG]
    unfold vcMd_given_11 at hv
    refine lv_iconst (v := 1) hx hb dMd_given_11 (by decide) ?_
    refine lv_goto (tgt := 37) hx hb dMd_given_12 (by decide) ?_
    exact j37 1 hv _ _ _ hP hD hS (lv_sub hl [0, 1, 2, 3, 4, 5] rfl)
  rw [eG] at j11
  have j32 : vcMd_given_32 n_isGiven n_gives f_width f_height f_different f_groups f_rowSize f_ready f_size f_rounds x1 x2 x3 x4 x5 post f_thrown f_isGiven f_gives → ∀ (H : Heap) (locs : List Loc) (ls : Array Slot), va_P (dC, dI) vwCl (wdMd_given q_this q_isGiven q_gives r_samples r_colours r_many r_group r_row r_channelOf r_spreads r_boxMany r_there r_groupMany r_means r_sums r_palette r_has r_takers r_takenSums r_order r_before r_roundSums r_carried c_isGiven c_gives n_isGiven n_gives f_thrown f_width f_height f_different f_groups f_rowSize f_ready f_size f_rounds f_isGiven f_gives) H → va_D A (wdMd_given q_this q_isGiven q_gives r_samples r_colours r_many r_group r_row r_channelOf r_spreads r_boxMany r_there r_groupMany r_means r_sums r_palette r_has r_takers r_takenSums r_order r_before r_roundSums r_carried c_isGiven c_gives n_isGiven n_gives f_thrown f_width f_height f_different f_groups f_rowSize f_ready f_size f_rounds f_isGiven f_gives) → va_S A s.heap H locs → lv_has ls 6 [(0, .ref q_this), (1, .int x1), (2, .int x2), (3, .int x3), (4, .int x4), (5, .int x5)] → G H locs 0 0 (F0 m 32 ls [.ref q_this]) := by
    intro  hv H locs ls hP hD hS hl
    rw [eG]
    unfold vcMd_given_32 at hv
    refine lv_iconst (v := 0) hx hb dMd_given_32 (by decide) ?_
    refine lv_goto (tgt := 37) hx hb dMd_given_33 (by decide) ?_
    exact j37 0 hv _ _ _ hP hD hS (lv_sub hl [0, 1, 2, 3, 4, 5] rfl)
  rw [eG] at j32
  unfold wpMd_given at hw
  have hv := hw
  rw [eG]
  refine lv_aload_n hx hb dMd_given_0 rfl (lv_at hl 0 rfl) ?_
  refine lv_iload_n hx hb dMd_given_1 rfl (lv_at hl 1 rfl) ?_
  refine lv_if_lt (tgt := 11) hx hb dMd_given_2 (by decide) (fun c_15 => ?_) (fun c_15 => ?_)
  · have hv := hv.1 c_15
    exact j11  hv _ _ _ hP hD hS (lv_sub hl [0, 1, 2, 3, 4, 5] rfl)
  · have hv := hv.2 c_15
    refine lv_iload_n hx hb dMd_given_5 rfl (lv_at hl 1 rfl) ?_
    refine lv_bipush (v := 64) hx hb dMd_given_6 (by decide) ?_
    refine lv_icmp_lt (tgt := 15) hx hb dMd_given_8 (by decide) (fun c_16 => ?_) (fun c_16 => ?_)
    · have hv := hv.1 c_16
      refine lv_iload_n hx hb dMd_given_15 rfl (lv_at hl 2 rfl) ?_
      refine lv_iconst (v := (-1)) hx hb dMd_given_16 (by decide) ?_
      refine lv_icmp_eq (tgt := 32) hx hb dMd_given_17 (by decide) (fun c_17 => ?_) (fun c_17 => ?_)
      · have hv := hv.1 c_17
        exact j32  hv _ _ _ hP hD hS (lv_sub hl [0, 1, 2, 3, 4, 5] rfl)
      · have hv := hv.2 c_17
        refine lv_iload_n hx hb dMd_given_20 rfl (lv_at hl 2 rfl) ?_
        refine lv_iload_n hx hb dMd_given_21 rfl (lv_at hl 3 rfl) ?_
        refine lv_iload hx hb dMd_given_22 (lv_at hl 4 rfl) ?_
        refine lv_iload hx hb dMd_given_24 (lv_at hl 5 rfl) ?_
        refine gx_ri (va_runS (As := [.int x2, .int x3, .int x4, .int x5]) (rest := [.ref q_this]) ⟨hx, hb, hml, hown, hB⟩ (metMd_areChannels l dC dI s.heap.size x2 x3 x4 x5 hv) (va_cwS 4 hB (gx_gS bw688 bw689 bw53 bw690) rfl rfl rfl (by decide +kernel) ⟨(Nat.le_of_ble_eq_true rfl), (Nat.le_of_ble_eq_true rfl)⟩) (gx_rpreS (hP.sub (ws' := wdMd_areChannels) [] rfl) (hK.sub (tys' := []) [] rfl) hZ hS hA) rfl rfl hl.1 rfl (lv_room (Nat.le_of_ble_eq_true rfl)) dMd_given_26 ⟨(Nat.le_of_ble_eq_true rfl), (Nat.le_of_ble_eq_true rfl)⟩) hP hS hA (fun r_18 H locs hv hP hS => ?_)
        refine lv_if_eq (tgt := 36) hx hb dMd_given_29 (by decide) (fun c_20 => ?_) (fun c_20 => ?_)
        · have hv := hv.1 c_20
          refine lv_iconst (v := 2) hx hb dMd_given_36 (by decide) ?_
          exact j37 2 hv _ _ _ hP hD hS (lv_sub hl [0, 1, 2, 3, 4, 5] rfl)
        · have hv := hv.2 c_20
          exact j32  hv _ _ _ hP hD hS (lv_sub hl [0, 1, 2, 3, 4, 5] rfl)
    · have hv := hv.2 c_16
      exact j11  hv _ _ _ hP hD hS (lv_sub hl [0, 1, 2, 3, 4, 5] rfl)
abbrev wdMd_compare (q_a0 q_a2 : Nat) (c_a0 c_a2 : ClassId) (n_a0 n_a2 : Nat) (f_a0 : Nat → Int32) (f_a2 : Nat → Int32) : va_W := [(q_a0, .inl (c_a0, n_a0, .inl f_a0)), (q_a2, .inl (c_a2, n_a2, .inl f_a2))]
set_option maxHeartbeats 4000000 in
set_option maxRecDepth 100000 in
theorem metMd_compare (l : Launch) (dC : Nat → ClassId) (dI : Nat → Nat → Nat) (q_a0 q_a2 : Nat) (c_a0 c_a2 : ClassId) (n_a0 n_a2 : Nat) (sz : Nat) (f_a0 : Nat → Int32) (f_a2 : Nat → Int32) (x1 : Int32) (x3 : Int32) {post : Int32 → Prop} (hw : wpMd_compare n_a0 n_a2 f_a0 f_a2 x1 x3 post) : Met l yMd_compare (.code yMd_compare bMd_compare 5 (some .int) :: BIG) ({ frames := 0, cells := 0, slots := 0, locals := 0 }) (va_Pc [.ref q_a0, .int x1, .ref q_a2, .int x3] (gx_rpre (dC, dI) vwCl (wdMd_compare q_a0 q_a2 c_a0 c_a2 n_a0 n_a2 f_a0 f_a2) [(c_a0, .int), (c_a2, .int)] sz)) (va_Qi (fun r (u : Unit) => post r ) (fun _ _ => True) (fun q : Nat => sz ≤ q)) 0 0 (fun q : Nat => sz ≤ q) := by
  refine Met.ofW (cc := bMd_compare) (maxL := 5) (ret := (some .int)) (by decide) rfl ?_
  intro p e s m args below meth c s₁ B hml hv
  obtain ⟨rfl, hsz, hP, hK, hZ⟩ := hv
  have hx := B.exec
  have hb := B.bytes
  have hr := B.returns
  have hts := atoms_spec (ws := (.code yMd_compare bMd_compare 5 (some .int) :: BIG)) B.pre
  have hB : ∀ w ∈ BIG, w.before _ s = true := fun w h => hts w (List.mem_cons_of_mem _ h)
  have hown : s.vm.findClass RMd = some m.cls := findClass_of_methodNamed B.named
  have hlocks := B.notSynchronized
  subst hsz
  have hA : ∀ q : Nat, s.heap.size ≤ q → (fun q : Nat => s.heap.size ≤ q) q := fun _ h => h
  have hS : va_S (fun q : Nat => s.heap.size ≤ q) s.heap s.heap [] := va_S.rf
  have hl := lv_entry ([.ref q_a0, .int x1, .ref q_a2, .int x3]) (n := 5) (Nat.le_of_ble_eq_true rfl)
  rw [lg_entry_eq]
  generalize (lg_sl ([.ref q_a0, .int x1, .ref q_a2, .int x3]) ++ List.replicate (5 - (lg_sl ([.ref q_a0, .int x1, .ref q_a2, .int x3])).length) Slot.unset).toArray = ls at hl ⊢
  have hl : lv_has ls 5 [(0, .ref q_a0), (1, .int x1), (2, .ref q_a2), (3, .int x3)] := hl
  refine gx_abs (fun G eG => ?_)
  obtain ⟨K3, eK3⟩ : ∃ K : Int32 → Prop, K = fun v4 => ∀ (H : Heap) (locs : List Loc) (ls : Array Slot), va_P (dC, dI) vwCl (wdMd_compare q_a0 q_a2 c_a0 c_a2 n_a0 n_a2 f_a0 f_a2) H → va_S (fun q : Nat => s.heap.size ≤ q) s.heap H locs → lv_has ls 5 [(0, .ref q_a0), (1, .int x1), (2, .ref q_a2), (3, .int x3), (4, .int v4)] → G H locs 0 0 (F0 m 3 ls []) := ⟨_, rfl⟩
  unfold wpMd_compare at hw
  have hv := hw K3
  have hv := hv (by
    intro v4 hv
    rw [eK3]
    intro H locs ls hP hS hl
    rw [eG]
    unfold vcMd_compare_3 at hv
    refine lv_iload hx hb dMd_compare_3 (lv_at hl 4 rfl) ?_
    refine lv_iconst (v := 4) hx hb dMd_compare_5 (by decide) ?_
    refine lv_icmp_ge (tgt := 44) hx hb dMd_compare_6 (by decide) (fun c_1 => ?_) (fun c_1 => ?_)
    · have hv := hv.1 c_1
      refine lv_iconst (v := 0) hx hb dMd_compare_44 (by decide) ?_
      exact W.iret (v := 0) hx hb hr (fun t ht hW => ⟨⟨_, (), rfl, hv, trivial⟩, hS.F ht⟩) hS.2.2 dMd_compare_45
    · have hv := hv.2 c_1
      refine lv_aload_n hx hb dMd_compare_9 rfl (lv_at hl 0 rfl) ?_
      refine lv_iload_n hx hb dMd_compare_10 rfl (lv_at hl 1 rfl) ?_
      refine lv_iload hx hb dMd_compare_11 (lv_at hl 4 rfl) ?_
      refine lv_iadd hx hb dMd_compare_13 ?_
      obtain ⟨h_2, hv⟩ := hv
      refine va_iald hx hb hK hP 0 0 rfl rfl h_2 dMd_compare_14 ?_
      refine lv_aload_n hx hb dMd_compare_15 rfl (lv_at hl 2 rfl) ?_
      refine lv_iload_n hx hb dMd_compare_16 rfl (lv_at hl 3 rfl) ?_
      refine lv_iload hx hb dMd_compare_17 (lv_at hl 4 rfl) ?_
      refine lv_iadd hx hb dMd_compare_19 ?_
      obtain ⟨h_3, hv⟩ := hv
      refine va_iald hx hb hK hP 1 1 rfl rfl h_3 dMd_compare_20 ?_
      refine lv_icmp_eq (tgt := 38) hx hb dMd_compare_21 (by decide) (fun c_4 => ?_) (fun c_4 => ?_)
      · have hv := hv.1 c_4
        refine lv_iinc (v := v4 + 1) (lv' := [(4, .int (v4 + 1)), (0, .ref q_a0), (1, .int x1), (2, .ref q_a2), (3, .int x3)]) hx hb dMd_compare_38 hl (k := 4) rfl rfl (by decide) rfl (fun ls hl => ?_)
        refine lv_goto (tgt := 3) hx hb dMd_compare_41 (by decide) ?_
        rw [eK3, eG] at hv
        exact hv _ _ _ hP hS (lv_sub hl [1, 2, 3, 4, 0] rfl)
      · have hv := hv.2 c_4
        refine lv_aload_n hx hb dMd_compare_24 rfl (lv_at hl 0 rfl) ?_
        refine lv_iload_n hx hb dMd_compare_25 rfl (lv_at hl 1 rfl) ?_
        refine lv_iload hx hb dMd_compare_26 (lv_at hl 4 rfl) ?_
        refine lv_iadd hx hb dMd_compare_28 ?_
        obtain ⟨h_5, hv⟩ := hv
        refine va_iald hx hb hK hP 0 0 rfl rfl h_5 dMd_compare_29 ?_
        refine lv_aload_n hx hb dMd_compare_30 rfl (lv_at hl 2 rfl) ?_
        refine lv_iload_n hx hb dMd_compare_31 rfl (lv_at hl 3 rfl) ?_
        refine lv_iload hx hb dMd_compare_32 (lv_at hl 4 rfl) ?_
        refine lv_iadd hx hb dMd_compare_34 ?_
        obtain ⟨h_6, hv⟩ := hv
        refine va_iald hx hb hK hP 1 1 rfl rfl h_6 dMd_compare_35 ?_
        refine lv_isub hx hb dMd_compare_36 ?_
        exact W.iret (v := (f_a0 (x1 + v4).toNatClampNeg) - (f_a2 (x3 + v4).toNatClampNeg)) hx hb hr (fun t ht hW => ⟨⟨_, (), rfl, hv, trivial⟩, hS.F ht⟩) hS.2.2 dMd_compare_37)
  rw [eG]
  refine lv_iconst (v := 0) hx hb dMd_compare_0 (by decide) ?_
  refine lv_istore (lv' := [(4, .int 0), (0, .ref q_a0), (1, .int x1), (2, .ref q_a2), (3, .int x3)]) hx hb dMd_compare_1 hl (by decide) rfl (fun ls hl => ?_)
  rw [eK3, eG] at hv
  exact hv _ _ _ hP hS (lv_sub hl [1, 2, 3, 4, 0] rfl)
abbrev wdMd_copy (q_a0 q_a2 : Nat) (c_a0 c_a2 : ClassId) (n_a0 n_a2 : Nat) (f_a0 : Nat → Int32) (f_a2 : Nat → Int32) : va_W := [(q_a0, .inl (c_a0, n_a0, .inl f_a0)), (q_a2, .inl (c_a2, n_a2, .inl f_a2))]
set_option maxHeartbeats 4000000 in
set_option maxRecDepth 100000 in
theorem metMd_copy (l : Launch) (dC : Nat → ClassId) (dI : Nat → Nat → Nat) (q_a0 q_a2 : Nat) (c_a0 c_a2 : ClassId) (n_a0 n_a2 : Nat) (sz : Nat) (f_a0 : Nat → Int32) (f_a2 : Nat → Int32) (x1 : Int32) (x3 : Int32) {post : (Nat → Int32) → Prop} (hw : wpMd_copy n_a0 n_a2 f_a0 f_a2 x1 x3 post) : Met l yMd_copy (.code yMd_copy bMd_copy 5 none :: BIG) ({ frames := 0, cells := 0, slots := 0, locals := 0 }) (va_Pc [.ref q_a0, .int x1, .ref q_a2, .int x3] (gx_pre (dC, dI) vwCl (wdMd_copy q_a0 q_a2 c_a0 c_a2 n_a0 n_a2 f_a0 f_a2) [(c_a0, .int), (c_a2, .int)] sz)) (va_Qv (fun (u : (Nat → Int32)) => post u) (gx_B (dC, dI) vwCl (va_A (wdMd_copy q_a0 q_a2 c_a0 c_a2 n_a0 n_a2 f_a0 f_a2) sz) (fun (u : (Nat → Int32)) => (wdMd_copy q_a0 q_a2 c_a0 c_a2 n_a0 n_a2 f_a0 u))) (va_A (wdMd_copy q_a0 q_a2 c_a0 c_a2 n_a0 n_a2 f_a0 f_a2) sz)) 0 0 (va_A (wdMd_copy q_a0 q_a2 c_a0 c_a2 n_a0 n_a2 f_a0 f_a2) sz) := by
  refine Met.ofW (cc := bMd_copy) (maxL := 5) (ret := none) (by decide) rfl ?_
  intro p e s m args below meth c s₁ B hml hv
  obtain ⟨rfl, hsz, hP, hK, hD0, hZ⟩ := hv
  have hx := B.exec
  have hb := B.bytes
  have hr := B.returns
  have hts := atoms_spec (ws := (.code yMd_copy bMd_copy 5 none :: BIG)) B.pre
  have hB : ∀ w ∈ BIG, w.before _ s = true := fun w h => hts w (List.mem_cons_of_mem _ h)
  have hown : s.vm.findClass RMd = some m.cls := findClass_of_methodNamed B.named
  have hlocks := B.notSynchronized
  subst hsz
  have hD := hD0.self (sz := s.heap.size)
  generalize hAe : va_A (wdMd_copy q_a0 q_a2 c_a0 c_a2 n_a0 n_a2 f_a0 f_a2) s.heap.size = A at hD hZ ⊢
  have hA : ∀ q : Nat, s.heap.size ≤ q → A q := fun q h => by rw [← hAe]; exact Or.inr h
  have hS : va_S A s.heap s.heap [] := va_S.rf
  have hl := lv_entry ([.ref q_a0, .int x1, .ref q_a2, .int x3]) (n := 5) (Nat.le_of_ble_eq_true rfl)
  rw [lg_entry_eq]
  generalize (lg_sl ([.ref q_a0, .int x1, .ref q_a2, .int x3]) ++ List.replicate (5 - (lg_sl ([.ref q_a0, .int x1, .ref q_a2, .int x3])).length) Slot.unset).toArray = ls at hl ⊢
  have hl : lv_has ls 5 [(0, .ref q_a0), (1, .int x1), (2, .ref q_a2), (3, .int x3)] := hl
  refine gx_abs (fun G eG => ?_)
  obtain ⟨K3, eK3⟩ : ∃ K : Int32 → (Nat → Int32) → Prop, K = fun v4 f_a2 => ∀ (H : Heap) (locs : List Loc) (ls : Array Slot), va_P (dC, dI) vwCl (wdMd_copy q_a0 q_a2 c_a0 c_a2 n_a0 n_a2 f_a0 f_a2) H → va_D A (wdMd_copy q_a0 q_a2 c_a0 c_a2 n_a0 n_a2 f_a0 f_a2) → va_S A s.heap H locs → lv_has ls 5 [(0, .ref q_a0), (1, .int x1), (2, .ref q_a2), (3, .int x3), (4, .int v4)] → G H locs 0 0 (F0 m 3 ls []) := ⟨_, rfl⟩
  unfold wpMd_copy at hw
  have hv := hw K3
  have hv := hv (by
    intro v4 f_a2 hv
    rw [eK3]
    intro H locs ls hP hD hS hl
    rw [eG]
    unfold vcMd_copy_3 at hv
    refine lv_iload hx hb dMd_copy_3 (lv_at hl 4 rfl) ?_
    refine lv_iconst (v := 4) hx hb dMd_copy_5 (by decide) ?_
    refine lv_icmp_ge (tgt := 27) hx hb dMd_copy_6 (by decide) (fun c_1 => ?_) (fun c_1 => ?_)
    · have hv := hv.1 c_1
      exact W.vret hx hb hr (fun t ht hW => ⟨⟨f_a2, rfl, hv, by rw [ht]; exact hP, hD⟩, hS.F ht⟩) hS.2.2 dMd_copy_27
    · have hv := hv.2 c_1
      refine lv_aload_n hx hb dMd_copy_9 rfl (lv_at hl 2 rfl) ?_
      refine lv_iload_n hx hb dMd_copy_10 rfl (lv_at hl 3 rfl) ?_
      refine lv_iload hx hb dMd_copy_11 (lv_at hl 4 rfl) ?_
      refine lv_iadd hx hb dMd_copy_13 ?_
      refine lv_aload_n hx hb dMd_copy_14 rfl (lv_at hl 0 rfl) ?_
      refine lv_iload_n hx hb dMd_copy_15 rfl (lv_at hl 1 rfl) ?_
      refine lv_iload hx hb dMd_copy_16 (lv_at hl 4 rfl) ?_
      refine lv_iadd hx hb dMd_copy_18 ?_
      obtain ⟨h_2, hv⟩ := hv
      refine va_iald hx hb hK hP 0 0 rfl rfl h_2 dMd_copy_19 ?_
      obtain ⟨h_3, hv⟩ := hv
      refine va_iast hx hb hK hP hD hS 1 1 rfl rfl h_3 dMd_copy_20 (fun H locs hP hD hS => ?_)
      have hP : va_P (dC, dI) vwCl (wdMd_copy q_a0 q_a2 c_a0 c_a2 n_a0 n_a2 f_a0 (upd f_a2 (x3 + v4).toNatClampNeg (f_a0 (x1 + v4).toNatClampNeg))) H := hP
      have hD : va_D A (wdMd_copy q_a0 q_a2 c_a0 c_a2 n_a0 n_a2 f_a0 (upd f_a2 (x3 + v4).toNatClampNeg (f_a0 (x1 + v4).toNatClampNeg))) := hD
      refine lv_iinc (v := v4 + 1) (lv' := [(4, .int (v4 + 1)), (0, .ref q_a0), (1, .int x1), (2, .ref q_a2), (3, .int x3)]) hx hb dMd_copy_21 hl (k := 4) rfl rfl (by decide) rfl (fun ls hl => ?_)
      refine lv_goto (tgt := 3) hx hb dMd_copy_24 (by decide) ?_
      rw [eK3, eG] at hv
      exact hv _ _ _ hP hD hS (lv_sub hl [1, 2, 3, 4, 0] rfl))
  rw [eG]
  refine lv_iconst (v := 0) hx hb dMd_copy_0 (by decide) ?_
  refine lv_istore (lv' := [(4, .int 0), (0, .ref q_a0), (1, .int x1), (2, .ref q_a2), (3, .int x3)]) hx hb dMd_copy_1 hl (by decide) rfl (fun ls hl => ?_)
  rw [eK3, eG] at hv
  exact hv _ _ _ hP hD hS (lv_sub hl [1, 2, 3, 4, 0] rfl)
abbrev wdMd_copy__02 (q_a0 : Nat) (c_a0 : ClassId) (n_a0 : Nat) (f_a0 : Nat → Int32) : va_W := [(q_a0, .inl (c_a0, n_a0, .inl f_a0))]
set_option maxHeartbeats 4000000 in
set_option maxRecDepth 100000 in
theorem metMd_copy__02 (l : Launch) (dC : Nat → ClassId) (dI : Nat → Nat → Nat) (q_a0 : Nat) (c_a0 : ClassId) (n_a0 : Nat) (sz : Nat) (f_a0 : Nat → Int32) (x1 : Int32) (x3 : Int32) {post : (Nat → Int32) → Prop} (hw : wpMd_copy__02 n_a0 f_a0 x1 x3 post) : Met l yMd_copy (.code yMd_copy bMd_copy 5 none :: BIG) ({ frames := 0, cells := 0, slots := 0, locals := 0 }) (va_Pc [.ref q_a0, .int x1, .ref q_a0, .int x3] (gx_pre (dC, dI) vwCl (wdMd_copy__02 q_a0 c_a0 n_a0 f_a0) [(c_a0, .int)] sz)) (va_Qv (fun (u : (Nat → Int32)) => post u) (gx_B (dC, dI) vwCl (va_A (wdMd_copy__02 q_a0 c_a0 n_a0 f_a0) sz) (fun (u : (Nat → Int32)) => (wdMd_copy__02 q_a0 c_a0 n_a0 u))) (va_A (wdMd_copy__02 q_a0 c_a0 n_a0 f_a0) sz)) 0 0 (va_A (wdMd_copy__02 q_a0 c_a0 n_a0 f_a0) sz) := by
  refine Met.ofW (cc := bMd_copy) (maxL := 5) (ret := none) (by decide) rfl ?_
  intro p e s m args below meth c s₁ B hml hv
  obtain ⟨rfl, hsz, hP, hK, hD0, hZ⟩ := hv
  have hx := B.exec
  have hb := B.bytes
  have hr := B.returns
  have hts := atoms_spec (ws := (.code yMd_copy bMd_copy 5 none :: BIG)) B.pre
  have hB : ∀ w ∈ BIG, w.before _ s = true := fun w h => hts w (List.mem_cons_of_mem _ h)
  have hown : s.vm.findClass RMd = some m.cls := findClass_of_methodNamed B.named
  have hlocks := B.notSynchronized
  subst hsz
  have hD := hD0.self (sz := s.heap.size)
  generalize hAe : va_A (wdMd_copy__02 q_a0 c_a0 n_a0 f_a0) s.heap.size = A at hD hZ ⊢
  have hA : ∀ q : Nat, s.heap.size ≤ q → A q := fun q h => by rw [← hAe]; exact Or.inr h
  have hS : va_S A s.heap s.heap [] := va_S.rf
  have hl := lv_entry ([.ref q_a0, .int x1, .ref q_a0, .int x3]) (n := 5) (Nat.le_of_ble_eq_true rfl)
  rw [lg_entry_eq]
  generalize (lg_sl ([.ref q_a0, .int x1, .ref q_a0, .int x3]) ++ List.replicate (5 - (lg_sl ([.ref q_a0, .int x1, .ref q_a0, .int x3])).length) Slot.unset).toArray = ls at hl ⊢
  have hl : lv_has ls 5 [(0, .ref q_a0), (1, .int x1), (2, .ref q_a0), (3, .int x3)] := hl
  refine gx_abs (fun G eG => ?_)
  obtain ⟨K3, eK3⟩ : ∃ K : Int32 → (Nat → Int32) → Prop, K = fun v4 f_a0 => ∀ (H : Heap) (locs : List Loc) (ls : Array Slot), va_P (dC, dI) vwCl (wdMd_copy__02 q_a0 c_a0 n_a0 f_a0) H → va_D A (wdMd_copy__02 q_a0 c_a0 n_a0 f_a0) → va_S A s.heap H locs → lv_has ls 5 [(0, .ref q_a0), (1, .int x1), (2, .ref q_a0), (3, .int x3), (4, .int v4)] → G H locs 0 0 (F0 m 3 ls []) := ⟨_, rfl⟩
  unfold wpMd_copy__02 at hw
  have hv := hw K3
  have hv := hv (by
    intro v4 f_a0 hv
    rw [eK3]
    intro H locs ls hP hD hS hl
    rw [eG]
    unfold vcMd_copy__02_3 at hv
    refine lv_iload hx hb dMd_copy_3 (lv_at hl 4 rfl) ?_
    refine lv_iconst (v := 4) hx hb dMd_copy_5 (by decide) ?_
    refine lv_icmp_ge (tgt := 27) hx hb dMd_copy_6 (by decide) (fun c_1 => ?_) (fun c_1 => ?_)
    · have hv := hv.1 c_1
      exact W.vret hx hb hr (fun t ht hW => ⟨⟨f_a0, rfl, hv, by rw [ht]; exact hP, hD⟩, hS.F ht⟩) hS.2.2 dMd_copy_27
    · have hv := hv.2 c_1
      refine lv_aload_n hx hb dMd_copy_9 rfl (lv_at hl 2 rfl) ?_
      refine lv_iload_n hx hb dMd_copy_10 rfl (lv_at hl 3 rfl) ?_
      refine lv_iload hx hb dMd_copy_11 (lv_at hl 4 rfl) ?_
      refine lv_iadd hx hb dMd_copy_13 ?_
      refine lv_aload_n hx hb dMd_copy_14 rfl (lv_at hl 0 rfl) ?_
      refine lv_iload_n hx hb dMd_copy_15 rfl (lv_at hl 1 rfl) ?_
      refine lv_iload hx hb dMd_copy_16 (lv_at hl 4 rfl) ?_
      refine lv_iadd hx hb dMd_copy_18 ?_
      obtain ⟨h_2, hv⟩ := hv
      refine va_iald hx hb hK hP 0 0 rfl rfl h_2 dMd_copy_19 ?_
      obtain ⟨h_3, hv⟩ := hv
      refine va_iast hx hb hK hP hD hS 0 0 rfl rfl h_3 dMd_copy_20 (fun H locs hP hD hS => ?_)
      have hP : va_P (dC, dI) vwCl (wdMd_copy__02 q_a0 c_a0 n_a0 (upd f_a0 (x3 + v4).toNatClampNeg (f_a0 (x1 + v4).toNatClampNeg))) H := hP
      have hD : va_D A (wdMd_copy__02 q_a0 c_a0 n_a0 (upd f_a0 (x3 + v4).toNatClampNeg (f_a0 (x1 + v4).toNatClampNeg))) := hD
      refine lv_iinc (v := v4 + 1) (lv' := [(4, .int (v4 + 1)), (0, .ref q_a0), (1, .int x1), (2, .ref q_a0), (3, .int x3)]) hx hb dMd_copy_21 hl (k := 4) rfl rfl (by decide) rfl (fun ls hl => ?_)
      refine lv_goto (tgt := 3) hx hb dMd_copy_24 (by decide) ?_
      rw [eK3, eG] at hv
      exact hv _ _ _ hP hD hS (lv_sub hl [1, 2, 3, 4, 0] rfl))
  rw [eG]
  refine lv_iconst (v := 0) hx hb dMd_copy_0 (by decide) ?_
  refine lv_istore (lv' := [(4, .int 0), (0, .ref q_a0), (1, .int x1), (2, .ref q_a0), (3, .int x3)]) hx hb dMd_copy_1 hl (by decide) rfl (fun ls hl => ?_)
  rw [eK3, eG] at hv
  exact hv _ _ _ hP hD hS (lv_sub hl [1, 2, 3, 4, 0] rfl)
abbrev wdMd_findDifferent (q_this q_samples q_colours q_many r_isGiven r_gives r_group r_row r_channelOf r_spreads r_boxMany r_there r_groupMany r_means r_sums r_palette r_has r_takers r_takenSums r_order r_before r_roundSums r_carried : Nat) (c_samples c_colours c_many : ClassId) (n_samples n_colours n_many : Nat) (f_thrown : Int32) (f_width : Int32) (f_height : Int32) (f_different : Int32) (f_groups : Int32) (f_rowSize : Int32) (f_ready : Int32) (f_size : Int32) (f_rounds : Int32) (f_samples : Nat → Int32) (f_colours : Nat → Int32) (f_many : Nat → Int32) : va_W := [(q_this, .inr (8, [.int f_thrown, .int f_width, .int f_height, .ref q_samples, .ref r_isGiven, .ref r_gives, .int f_different, .ref q_colours, .ref q_many, .ref r_group, .int f_groups, .ref r_row, .int f_rowSize, .ref r_channelOf, .ref r_spreads, .ref r_boxMany, .ref r_there, .ref r_groupMany, .ref r_means, .ref r_sums, .int f_ready, .int f_size, .ref r_palette, .ref r_has, .ref r_takers, .ref r_takenSums, .ref r_order, .ref r_before, .int f_rounds, .ref r_roundSums, .ref r_carried])), (q_samples, .inl (c_samples, n_samples, .inl f_samples)), (q_colours, .inl (c_colours, n_colours, .inl f_colours)), (q_many, .inl (c_many, n_many, .inl f_many))]
set_option maxHeartbeats 4000000 in
set_option maxRecDepth 100000 in
theorem metMd_findDifferent (l : Launch) (dC : Nat → ClassId) (dI : Nat → Nat → Nat) (q_this q_samples q_colours q_many r_isGiven r_gives r_group r_row r_channelOf r_spreads r_boxMany r_there r_groupMany r_means r_sums r_palette r_has r_takers r_takenSums r_order r_before r_roundSums r_carried : Nat) (c_samples c_colours c_many : ClassId) (n_samples n_colours n_many : Nat) (sz : Nat) (f_thrown : Int32) (f_width : Int32) (f_height : Int32) (f_different : Int32) (f_groups : Int32) (f_rowSize : Int32) (f_ready : Int32) (f_size : Int32) (f_rounds : Int32) (f_samples : Nat → Int32) (f_colours : Nat → Int32) (f_many : Nat → Int32) {post : Int32 → (Nat → Int32) → (Nat → Int32) → Prop} (hw : wpMd_findDifferent n_samples n_colours n_many f_thrown f_width f_height f_different f_groups f_rowSize f_ready f_size f_rounds f_samples f_colours f_many post) : Met l yMd_findDifferent (.code yMd_findDifferent bMd_findDifferent 4 none :: BIG) ({ frames := 1, cells := 0, slots := 0, locals := 24 }) (va_Pc [.ref q_this] (gx_pre (dC, dI) vwCl (wdMd_findDifferent q_this q_samples q_colours q_many r_isGiven r_gives r_group r_row r_channelOf r_spreads r_boxMany r_there r_groupMany r_means r_sums r_palette r_has r_takers r_takenSums r_order r_before r_roundSums r_carried c_samples c_colours c_many n_samples n_colours n_many f_thrown f_width f_height f_different f_groups f_rowSize f_ready f_size f_rounds f_samples f_colours f_many) [(c_samples, .int), (c_colours, .int), (c_many, .int)] sz)) (va_Qv (fun (u : Int32 × (Nat → Int32) × (Nat → Int32)) => post u.1 u.2.1 u.2.2) (gx_B (dC, dI) vwCl (va_A (wdMd_findDifferent q_this q_samples q_colours q_many r_isGiven r_gives r_group r_row r_channelOf r_spreads r_boxMany r_there r_groupMany r_means r_sums r_palette r_has r_takers r_takenSums r_order r_before r_roundSums r_carried c_samples c_colours c_many n_samples n_colours n_many f_thrown f_width f_height f_different f_groups f_rowSize f_ready f_size f_rounds f_samples f_colours f_many) sz) (fun (u : Int32 × (Nat → Int32) × (Nat → Int32)) => (wdMd_findDifferent q_this q_samples q_colours q_many r_isGiven r_gives r_group r_row r_channelOf r_spreads r_boxMany r_there r_groupMany r_means r_sums r_palette r_has r_takers r_takenSums r_order r_before r_roundSums r_carried c_samples c_colours c_many n_samples n_colours n_many f_thrown f_width f_height u.1 f_groups f_rowSize f_ready f_size f_rounds f_samples u.2.1 u.2.2))) (va_A (wdMd_findDifferent q_this q_samples q_colours q_many r_isGiven r_gives r_group r_row r_channelOf r_spreads r_boxMany r_there r_groupMany r_means r_sums r_palette r_has r_takers r_takenSums r_order r_before r_roundSums r_carried c_samples c_colours c_many n_samples n_colours n_many f_thrown f_width f_height f_different f_groups f_rowSize f_ready f_size f_rounds f_samples f_colours f_many) sz)) 0 0 (va_A (wdMd_findDifferent q_this q_samples q_colours q_many r_isGiven r_gives r_group r_row r_channelOf r_spreads r_boxMany r_there r_groupMany r_means r_sums r_palette r_has r_takers r_takenSums r_order r_before r_roundSums r_carried c_samples c_colours c_many n_samples n_colours n_many f_thrown f_width f_height f_different f_groups f_rowSize f_ready f_size f_rounds f_samples f_colours f_many) sz) := by
  refine Met.ofW (cc := bMd_findDifferent) (maxL := 4) (ret := none) (by decide) rfl ?_
  intro p e s m args below meth c s₁ B hml hv
  obtain ⟨rfl, hsz, hP, hK, hD0, hZ⟩ := hv
  have hx := B.exec
  have hb := B.bytes
  have hr := B.returns
  have hts := atoms_spec (ws := (.code yMd_findDifferent bMd_findDifferent 4 none :: BIG)) B.pre
  have hB : ∀ w ∈ BIG, w.before _ s = true := fun w h => hts w (List.mem_cons_of_mem _ h)
  have hown : s.vm.findClass RMd = some m.cls := findClass_of_methodNamed B.named
  have hlocks := B.notSynchronized
  subst hsz
  have hD := hD0.self (sz := s.heap.size)
  generalize hAe : va_A (wdMd_findDifferent q_this q_samples q_colours q_many r_isGiven r_gives r_group r_row r_channelOf r_spreads r_boxMany r_there r_groupMany r_means r_sums r_palette r_has r_takers r_takenSums r_order r_before r_roundSums r_carried c_samples c_colours c_many n_samples n_colours n_many f_thrown f_width f_height f_different f_groups f_rowSize f_ready f_size f_rounds f_samples f_colours f_many) s.heap.size = A at hD hZ ⊢
  have hA : ∀ q : Nat, s.heap.size ≤ q → A q := fun q h => by rw [← hAe]; exact Or.inr h
  have hS : va_S A s.heap s.heap [] := va_S.rf
  have hl := lv_entry ([.ref q_this]) (n := 4) (Nat.le_of_ble_eq_true rfl)
  rw [lg_entry_eq]
  generalize (lg_sl ([.ref q_this]) ++ List.replicate (4 - (lg_sl ([.ref q_this])).length) Slot.unset).toArray = ls at hl ⊢
  have hl : lv_has ls 4 [(0, .ref q_this)] := hl
  have hL7 := (hB _ bw618)
  have hL20 := (hB _ bw622)
  have hL23 := (hB _ bw623)
  have hL78 := (hB _ bw616)
  have hL82 := (hB _ bw617)
  have hL108 := (hB _ bw621)
  refine gx_abs (fun G eG => ?_)
  obtain ⟨K7, eK7⟩ : ∃ K : Int32 → Int32 → (Nat → Int32) → (Nat → Int32) → Prop, K = fun v1 f_different f_colours f_many => ∀ (H : Heap) (locs : List Loc) (ls : Array Slot), va_P (dC, dI) vwCl (wdMd_findDifferent q_this q_samples q_colours q_many r_isGiven r_gives r_group r_row r_channelOf r_spreads r_boxMany r_there r_groupMany r_means r_sums r_palette r_has r_takers r_takenSums r_order r_before r_roundSums r_carried c_samples c_colours c_many n_samples n_colours n_many f_thrown f_width f_height f_different f_groups f_rowSize f_ready f_size f_rounds f_samples f_colours f_many) H → va_D A (wdMd_findDifferent q_this q_samples q_colours q_many r_isGiven r_gives r_group r_row r_channelOf r_spreads r_boxMany r_there r_groupMany r_means r_sums r_palette r_has r_takers r_takenSums r_order r_before r_roundSums r_carried c_samples c_colours c_many n_samples n_colours n_many f_thrown f_width f_height f_different f_groups f_rowSize f_ready f_size f_rounds f_samples f_colours f_many) → va_S A s.heap H locs → lv_has ls 4 [(0, .ref q_this), (1, .int v1)] → G H locs 0 0 (F0 m 7 ls []) := ⟨_, rfl⟩
  obtain ⟨K22, eK22⟩ : ∃ K : Int32 → Int32 → Int32 → (Nat → Int32) → (Nat → Int32) → Prop, K = fun v1 v2 f_different f_colours f_many => ∀ (H : Heap) (locs : List Loc) (ls : Array Slot), va_P (dC, dI) vwCl (wdMd_findDifferent q_this q_samples q_colours q_many r_isGiven r_gives r_group r_row r_channelOf r_spreads r_boxMany r_there r_groupMany r_means r_sums r_palette r_has r_takers r_takenSums r_order r_before r_roundSums r_carried c_samples c_colours c_many n_samples n_colours n_many f_thrown f_width f_height f_different f_groups f_rowSize f_ready f_size f_rounds f_samples f_colours f_many) H → va_D A (wdMd_findDifferent q_this q_samples q_colours q_many r_isGiven r_gives r_group r_row r_channelOf r_spreads r_boxMany r_there r_groupMany r_means r_sums r_palette r_has r_takers r_takenSums r_order r_before r_roundSums r_carried c_samples c_colours c_many n_samples n_colours n_many f_thrown f_width f_height f_different f_groups f_rowSize f_ready f_size f_rounds f_samples f_colours f_many) → va_S A s.heap H locs → lv_has ls 4 [(0, .ref q_this), (1, .int v1), (2, .int v2)] → G H locs 0 0 (F0 m 22 ls []) := ⟨_, rfl⟩
  obtain ⟨K102, eK102⟩ : ∃ K : Int32 → Int32 → Int32 → Int32 → (Nat → Int32) → (Nat → Int32) → Prop, K = fun v1 v2 v3 f_different f_colours f_many => ∀ (H : Heap) (locs : List Loc) (ls : Array Slot), va_P (dC, dI) vwCl (wdMd_findDifferent q_this q_samples q_colours q_many r_isGiven r_gives r_group r_row r_channelOf r_spreads r_boxMany r_there r_groupMany r_means r_sums r_palette r_has r_takers r_takenSums r_order r_before r_roundSums r_carried c_samples c_colours c_many n_samples n_colours n_many f_thrown f_width f_height f_different f_groups f_rowSize f_ready f_size f_rounds f_samples f_colours f_many) H → va_D A (wdMd_findDifferent q_this q_samples q_colours q_many r_isGiven r_gives r_group r_row r_channelOf r_spreads r_boxMany r_there r_groupMany r_means r_sums r_palette r_has r_takers r_takenSums r_order r_before r_roundSums r_carried c_samples c_colours c_many n_samples n_colours n_many f_thrown f_width f_height f_different f_groups f_rowSize f_ready f_size f_rounds f_samples f_colours f_many) → va_S A s.heap H locs → lv_has ls 4 [(0, .ref q_this), (1, .int v1), (2, .int v2), (3, .int v3)] → G H locs 0 0 (F0 m 102 ls []) := ⟨_, rfl⟩
  have j180 : ∀ (v1 : Int32) (f_different : Int32) (f_colours : Nat → Int32) (f_many : Nat → Int32), vcMd_findDifferent_180 n_samples n_colours n_many f_thrown f_width f_height f_groups f_rowSize f_ready f_size f_rounds f_samples K7 K22 K102 post v1 f_different f_colours f_many → ∀ (H : Heap) (locs : List Loc) (ls : Array Slot), va_P (dC, dI) vwCl (wdMd_findDifferent q_this q_samples q_colours q_many r_isGiven r_gives r_group r_row r_channelOf r_spreads r_boxMany r_there r_groupMany r_means r_sums r_palette r_has r_takers r_takenSums r_order r_before r_roundSums r_carried c_samples c_colours c_many n_samples n_colours n_many f_thrown f_width f_height f_different f_groups f_rowSize f_ready f_size f_rounds f_samples f_colours f_many) H → va_D A (wdMd_findDifferent q_this q_samples q_colours q_many r_isGiven r_gives r_group r_row r_channelOf r_spreads r_boxMany r_there r_groupMany r_means r_sums r_palette r_has r_takers r_takenSums r_order r_before r_roundSums r_carried c_samples c_colours c_many n_samples n_colours n_many f_thrown f_width f_height f_different f_groups f_rowSize f_ready f_size f_rounds f_samples f_colours f_many) → va_S A s.heap H locs → lv_has ls 4 [(0, .ref q_this), (1, .int v1)] → G H locs 0 0 (F0 m 180 ls []) := by
    intro v1 f_different f_colours f_many hv H locs ls hP hD hS hl
    rw [eG]
    unfold vcMd_findDifferent_180 at hv
    refine lv_iinc (v := v1 + 1) (lv' := [(1, .int (v1 + 1)), (0, .ref q_this)]) hx hb dMd_findDifferent_180 hl (k := 1) rfl rfl (by decide) rfl (fun ls hl => ?_)
    refine lv_goto (tgt := 7) hx hb dMd_findDifferent_183 (by decide) ?_
    rw [eK7, eG] at hv
    exact hv _ _ _ hP hD hS (lv_sub hl [1, 0] rfl)
  rw [eG] at j180
  have j97 : ∀ (v1 : Int32) (v2 : Int32) (f_different : Int32) (f_colours : Nat → Int32) (f_many : Nat → Int32), vcMd_findDifferent_97 n_samples n_colours n_many f_thrown f_width f_height f_groups f_rowSize f_ready f_size f_rounds f_samples K7 K22 K102 post v1 v2 f_different f_colours f_many → ∀ (H : Heap) (locs : List Loc) (ls : Array Slot), va_P (dC, dI) vwCl (wdMd_findDifferent q_this q_samples q_colours q_many r_isGiven r_gives r_group r_row r_channelOf r_spreads r_boxMany r_there r_groupMany r_means r_sums r_palette r_has r_takers r_takenSums r_order r_before r_roundSums r_carried c_samples c_colours c_many n_samples n_colours n_many f_thrown f_width f_height f_different f_groups f_rowSize f_ready f_size f_rounds f_samples f_colours f_many) H → va_D A (wdMd_findDifferent q_this q_samples q_colours q_many r_isGiven r_gives r_group r_row r_channelOf r_spreads r_boxMany r_there r_groupMany r_means r_sums r_palette r_has r_takers r_takenSums r_order r_before r_roundSums r_carried c_samples c_colours c_many n_samples n_colours n_many f_thrown f_width f_height f_different f_groups f_rowSize f_ready f_size f_rounds f_samples f_colours f_many) → va_S A s.heap H locs → lv_has ls 4 [(0, .ref q_this), (1, .int v1), (2, .int v2)] → G H locs 0 0 (F0 m 97 ls []) := by
    intro v1 v2 f_different f_colours f_many hv H locs ls hP hD hS hl
    rw [eG]
    unfold vcMd_findDifferent_97 at hv
    refine lv_aload_n hx hb dMd_findDifferent_97 rfl (lv_at hl 0 rfl) ?_
    refine va_get (D := (dC, dI)) (ci := 8) (v := .int f_different) (C := RMd) (T := TMd) (N := 31) hx hb hB hiMd hown hK hP 0 rfl rfl 6 (by decide) hL108 (fun _ h9 => h9) rfl dMd_findDifferent_98 ?_
    refine lv_istore_n (lv' := [(3, .int f_different), (0, .ref q_this), (1, .int v1), (2, .int v2)]) hx hb dMd_findDifferent_101 rfl hl (by decide) rfl (fun ls hl => ?_)
    rw [eK102, eG] at hv
    exact hv _ _ _ hP hD hS (lv_sub hl [1, 2, 3, 0] rfl)
  rw [eG] at j97
  have j56 : ∀ (v1 : Int32) (v2 : Int32) (f_different : Int32) (f_colours : Nat → Int32) (f_many : Nat → Int32), vcMd_findDifferent_56 n_samples n_colours n_many f_thrown f_width f_height f_groups f_rowSize f_ready f_size f_rounds f_samples K7 K22 K102 post v1 v2 f_different f_colours f_many → ∀ (H : Heap) (locs : List Loc) (ls : Array Slot), va_P (dC, dI) vwCl (wdMd_findDifferent q_this q_samples q_colours q_many r_isGiven r_gives r_group r_row r_channelOf r_spreads r_boxMany r_there r_groupMany r_means r_sums r_palette r_has r_takers r_takenSums r_order r_before r_roundSums r_carried c_samples c_colours c_many n_samples n_colours n_many f_thrown f_width f_height f_different f_groups f_rowSize f_ready f_size f_rounds f_samples f_colours f_many) H → va_D A (wdMd_findDifferent q_this q_samples q_colours q_many r_isGiven r_gives r_group r_row r_channelOf r_spreads r_boxMany r_there r_groupMany r_means r_sums r_palette r_has r_takers r_takenSums r_order r_before r_roundSums r_carried c_samples c_colours c_many n_samples n_colours n_many f_thrown f_width f_height f_different f_groups f_rowSize f_ready f_size f_rounds f_samples f_colours f_many) → va_S A s.heap H locs → lv_has ls 4 [(0, .ref q_this), (1, .int v1), (2, .int v2)] → G H locs 0 0 (F0 m 56 ls []) := by
    intro v1 v2 f_different f_colours f_many hv H locs ls hP hD hS hl
    rw [eG]
    unfold vcMd_findDifferent_56 at hv
    refine lv_iload_n hx hb dMd_findDifferent_56 rfl (lv_at hl 2 rfl) ?_
    refine lv_aload_n hx hb dMd_findDifferent_57 rfl (lv_at hl 0 rfl) ?_
    refine va_get (D := (dC, dI)) (ci := 8) (v := .int f_different) (C := RMd) (T := TMd) (N := 31) hx hb hB hiMd hown hK hP 0 rfl rfl 6 (by decide) hL108 (fun _ h9 => h9) rfl dMd_findDifferent_58 ?_
    refine lv_icmp_ge (tgt := 97) hx hb dMd_findDifferent_61 (by decide) (fun c_1 => ?_) (fun c_1 => ?_)
    · have hv := hv.1 c_1
      exact j97 v1 v2 f_different f_colours f_many hv _ _ _ hP hD hS (lv_sub hl [0, 1, 2] rfl)
    · have hv := hv.2 c_1
      refine lv_aload_n hx hb dMd_findDifferent_64 rfl (lv_at hl 0 rfl) ?_
      refine va_get (D := (dC, dI)) (ci := 8) (v := .ref q_colours) (C := RMd) (T := TMd) (N := 31) hx hb hB hiMd hown hK hP 0 rfl rfl 7 (by decide) hL20 (fun _ h9 => h9) rfl dMd_findDifferent_65 ?_
      refine lv_iconst (v := 4) hx hb dMd_findDifferent_68 (by decide) ?_
      refine lv_iload_n hx hb dMd_findDifferent_69 rfl (lv_at hl 2 rfl) ?_
      refine lv_imul hx hb dMd_findDifferent_70 ?_
      refine lv_aload_n hx hb dMd_findDifferent_71 rfl (lv_at hl 0 rfl) ?_
      refine va_get (D := (dC, dI)) (ci := 8) (v := .ref q_samples) (C := RMd) (T := TMd) (N := 31) hx hb hB hiMd hown hK hP 0 rfl rfl 3 (by decide) hL7 (fun _ h9 => h9) rfl dMd_findDifferent_72 ?_
      refine lv_iconst (v := 4) hx hb dMd_findDifferent_75 (by decide) ?_
      refine lv_iload_n hx hb dMd_findDifferent_76 rfl (lv_at hl 1 rfl) ?_
      refine lv_imul hx hb dMd_findDifferent_77 ?_
      refine gx_ri (va_runS (As := [.ref q_colours, .int (4 * v2), .ref q_samples, .int (4 * v1)]) (rest := []) ⟨hx, hb, hml, hown, hB⟩ (metMd_compare l dC dI q_colours q_samples c_colours c_samples n_colours n_samples H.size f_colours f_samples (4 * v2) (4 * v1) hv) (va_cwS 4 hB (gx_gS bw722 bw723 bw53 bw724) rfl rfl rfl (by decide +kernel) ⟨(Nat.le_of_ble_eq_true rfl), (Nat.le_of_ble_eq_true rfl)⟩) (gx_rpreS (hP.sub (ws' := (wdMd_compare q_colours q_samples c_colours c_samples n_colours n_samples f_colours f_samples)) [2, 1] rfl) (hK.sub (tys' := [(c_colours, .int), (c_samples, .int)]) [1, 0] rfl) hZ hS hA) rfl rfl hl.1 rfl (lv_room (Nat.le_of_ble_eq_true rfl)) dMd_findDifferent_78 ⟨(Nat.le_of_ble_eq_true rfl), (Nat.le_of_ble_eq_true rfl)⟩) hP hS hA (fun r_2 H locs hv hP hS => ?_)
      refine lv_if_ne (tgt := 97) hx hb dMd_findDifferent_81 (by decide) (fun c_4 => ?_) (fun c_4 => ?_)
      · have hv := hv.1 c_4
        exact j97 v1 v2 f_different f_colours f_many hv _ _ _ hP hD hS (lv_sub hl [0, 1, 2] rfl)
      · have hv := hv.2 c_4
        refine lv_aload_n hx hb dMd_findDifferent_84 rfl (lv_at hl 0 rfl) ?_
        refine va_get (D := (dC, dI)) (ci := 8) (v := .ref q_many) (C := RMd) (T := TMd) (N := 31) hx hb hB hiMd hown hK hP 0 rfl rfl 8 (by decide) hL23 (fun _ h9 => h9) rfl dMd_findDifferent_85 ?_
        refine lv_iload_n hx hb dMd_findDifferent_88 rfl (lv_at hl 2 rfl) ?_
        refine lv_dup2_11 hx hb dMd_findDifferent_89 rfl rfl ?_
        obtain ⟨h_5, hv⟩ := hv
        refine va_iald hx hb hK hP 3 2 rfl rfl h_5 dMd_findDifferent_90 ?_
        refine lv_iconst (v := 1) hx hb dMd_findDifferent_91 (by decide) ?_
        refine lv_iadd hx hb dMd_findDifferent_92 ?_
        obtain ⟨h_6, hv⟩ := hv
        refine va_iast hx hb hK hP hD hS 3 2 rfl rfl h_6 dMd_findDifferent_93 (fun H locs hP hD hS => ?_)
        have hP : va_P (dC, dI) vwCl (wdMd_findDifferent q_this q_samples q_colours q_many r_isGiven r_gives r_group r_row r_channelOf r_spreads r_boxMany r_there r_groupMany r_means r_sums r_palette r_has r_takers r_takenSums r_order r_before r_roundSums r_carried c_samples c_colours c_many n_samples n_colours n_many f_thrown f_width f_height f_different f_groups f_rowSize f_ready f_size f_rounds f_samples f_colours (upd f_many v2.toNatClampNeg ((f_many v2.toNatClampNeg) + 1))) H := hP
        have hD : va_D A (wdMd_findDifferent q_this q_samples q_colours q_many r_isGiven r_gives r_group r_row r_channelOf r_spreads r_boxMany r_there r_groupMany r_means r_sums r_palette r_has r_takers r_takenSums r_order r_before r_roundSums r_carried c_samples c_colours c_many n_samples n_colours n_many f_thrown f_width f_height f_different f_groups f_rowSize f_ready f_size f_rounds f_samples f_colours (upd f_many v2.toNatClampNeg ((f_many v2.toNatClampNeg) + 1))) := hD
        refine lv_goto (tgt := 180) hx hb dMd_findDifferent_94 (by decide) ?_
        exact j180 v1 f_different f_colours (upd f_many v2.toNatClampNeg ((f_many v2.toNatClampNeg) + 1)) hv _ _ _ hP hD hS (lv_sub hl [0, 1] rfl)
  rw [eG] at j56
  unfold wpMd_findDifferent at hw
  have hv := hw K7 K22 K102
  have hv := hv (by
    intro v1 f_different f_colours f_many hv
    rw [eK7]
    intro H locs ls hP hD hS hl
    rw [eG]
    unfold vcMd_findDifferent_7 at hv
    refine lv_iload_n hx hb dMd_findDifferent_7 rfl (lv_at hl 1 rfl) ?_
    refine lv_aload_n hx hb dMd_findDifferent_8 rfl (lv_at hl 0 rfl) ?_
    refine va_get (D := (dC, dI)) (ci := 8) (v := .int f_width) (C := RMd) (T := TMd) (N := 31) hx hb hB hiMd hown hK hP 0 rfl rfl 1 (by decide) hL78 (fun _ h9 => h9) rfl dMd_findDifferent_9 ?_
    refine lv_aload_n hx hb dMd_findDifferent_12 rfl (lv_at hl 0 rfl) ?_
    refine va_get (D := (dC, dI)) (ci := 8) (v := .int f_height) (C := RMd) (T := TMd) (N := 31) hx hb hB hiMd hown hK hP 0 rfl rfl 2 (by decide) hL82 (fun _ h9 => h9) rfl dMd_findDifferent_13 ?_
    refine lv_imul hx hb dMd_findDifferent_16 ?_
    refine lv_icmp_ge (tgt := 186) hx hb dMd_findDifferent_17 (by decide) (fun c_8 => ?_) (fun c_8 => ?_)
    · have hv := hv.1 c_8
      exact W.vret hx hb hr (fun t ht hW => ⟨⟨(f_different, f_colours, f_many), rfl, hv, by rw [ht]; exact hP, hD⟩, hS.F ht⟩) hS.2.2 dMd_findDifferent_186
    · have hv := hv.2 c_8
      refine lv_iconst (v := 0) hx hb dMd_findDifferent_20 (by decide) ?_
      refine lv_istore_n (lv' := [(2, .int 0), (0, .ref q_this), (1, .int v1)]) hx hb dMd_findDifferent_21 rfl hl (by decide) rfl (fun ls hl => ?_)
      rw [eK22, eG] at hv
      exact hv _ _ _ hP hD hS (lv_sub hl [1, 2, 0] rfl))
  have hv := hv (by
    intro v1 v2 f_different f_colours f_many hv
    rw [eK22]
    intro H locs ls hP hD hS hl
    rw [eG]
    unfold vcMd_findDifferent_22 at hv
    refine lv_iload_n hx hb dMd_findDifferent_22 rfl (lv_at hl 2 rfl) ?_
    refine lv_aload_n hx hb dMd_findDifferent_23 rfl (lv_at hl 0 rfl) ?_
    refine va_get (D := (dC, dI)) (ci := 8) (v := .int f_different) (C := RMd) (T := TMd) (N := 31) hx hb hB hiMd hown hK hP 0 rfl rfl 6 (by decide) hL108 (fun _ h9 => h9) rfl dMd_findDifferent_24 ?_
    refine lv_icmp_ge (tgt := 56) hx hb dMd_findDifferent_27 (by decide) (fun c_9 => ?_) (fun c_9 => ?_)
    · have hv := hv.1 c_9
      exact j56 v1 v2 f_different f_colours f_many hv _ _ _ hP hD hS (lv_sub hl [0, 1, 2] rfl)
    · have hv := hv.2 c_9
      refine lv_aload_n hx hb dMd_findDifferent_30 rfl (lv_at hl 0 rfl) ?_
      refine va_get (D := (dC, dI)) (ci := 8) (v := .ref q_colours) (C := RMd) (T := TMd) (N := 31) hx hb hB hiMd hown hK hP 0 rfl rfl 7 (by decide) hL20 (fun _ h9 => h9) rfl dMd_findDifferent_31 ?_
      refine lv_iconst (v := 4) hx hb dMd_findDifferent_34 (by decide) ?_
      refine lv_iload_n hx hb dMd_findDifferent_35 rfl (lv_at hl 2 rfl) ?_
      refine lv_imul hx hb dMd_findDifferent_36 ?_
      refine lv_aload_n hx hb dMd_findDifferent_37 rfl (lv_at hl 0 rfl) ?_
      refine va_get (D := (dC, dI)) (ci := 8) (v := .ref q_samples) (C := RMd) (T := TMd) (N := 31) hx hb hB hiMd hown hK hP 0 rfl rfl 3 (by decide) hL7 (fun _ h9 => h9) rfl dMd_findDifferent_38 ?_
      refine lv_iconst (v := 4) hx hb dMd_findDifferent_41 (by decide) ?_
      refine lv_iload_n hx hb dMd_findDifferent_42 rfl (lv_at hl 1 rfl) ?_
      refine lv_imul hx hb dMd_findDifferent_43 ?_
      refine gx_ri (va_runS (As := [.ref q_colours, .int (4 * v2), .ref q_samples, .int (4 * v1)]) (rest := []) ⟨hx, hb, hml, hown, hB⟩ (metMd_compare l dC dI q_colours q_samples c_colours c_samples n_colours n_samples H.size f_colours f_samples (4 * v2) (4 * v1) hv) (va_cwS 4 hB (gx_gS bw722 bw723 bw53 bw724) rfl rfl rfl (by decide +kernel) ⟨(Nat.le_of_ble_eq_true rfl), (Nat.le_of_ble_eq_true rfl)⟩) (gx_rpreS (hP.sub (ws' := (wdMd_compare q_colours q_samples c_colours c_samples n_colours n_samples f_colours f_samples)) [2, 1] rfl) (hK.sub (tys' := [(c_colours, .int), (c_samples, .int)]) [1, 0] rfl) hZ hS hA) rfl rfl hl.1 rfl (lv_room (Nat.le_of_ble_eq_true rfl)) dMd_findDifferent_44 ⟨(Nat.le_of_ble_eq_true rfl), (Nat.le_of_ble_eq_true rfl)⟩) hP hS hA (fun r_10 H locs hv hP hS => ?_)
      refine lv_if_ge (tgt := 56) hx hb dMd_findDifferent_47 (by decide) (fun c_12 => ?_) (fun c_12 => ?_)
      · have hv := hv.1 c_12
        exact j56 v1 v2 f_different f_colours f_many hv _ _ _ hP hD hS (lv_sub hl [0, 1, 2] rfl)
      · have hv := hv.2 c_12
        refine lv_iinc (v := v2 + 1) (lv' := [(2, .int (v2 + 1)), (0, .ref q_this), (1, .int v1)]) hx hb dMd_findDifferent_50 hl (k := 2) rfl rfl (by decide) rfl (fun ls hl => ?_)
        refine lv_goto (tgt := 22) hx hb dMd_findDifferent_53 (by decide) ?_
        rw [eK22, eG] at hv
        exact hv _ _ _ hP hD hS (lv_sub hl [1, 2, 0] rfl))
  have hv := hv (by
    intro v1 v2 v3 f_different f_colours f_many hv
    rw [eK102]
    intro H locs ls hP hD hS hl
    rw [eG]
    unfold vcMd_findDifferent_102 at hv
    refine lv_iload_n hx hb dMd_findDifferent_102 rfl (lv_at hl 3 rfl) ?_
    refine lv_iload_n hx hb dMd_findDifferent_103 rfl (lv_at hl 2 rfl) ?_
    refine lv_icmp_le (tgt := 146) hx hb dMd_findDifferent_104 (by decide) (fun c_13 => ?_) (fun c_13 => ?_)
    · have hv := hv.1 c_13
      refine lv_aload_n hx hb dMd_findDifferent_146 rfl (lv_at hl 0 rfl) ?_
      refine va_get (D := (dC, dI)) (ci := 8) (v := .ref q_samples) (C := RMd) (T := TMd) (N := 31) hx hb hB hiMd hown hK hP 0 rfl rfl 3 (by decide) hL7 (fun _ h9 => h9) rfl dMd_findDifferent_147 ?_
      refine lv_iconst (v := 4) hx hb dMd_findDifferent_150 (by decide) ?_
      refine lv_iload_n hx hb dMd_findDifferent_151 rfl (lv_at hl 1 rfl) ?_
      refine lv_imul hx hb dMd_findDifferent_152 ?_
      refine lv_aload_n hx hb dMd_findDifferent_153 rfl (lv_at hl 0 rfl) ?_
      refine va_get (D := (dC, dI)) (ci := 8) (v := .ref q_colours) (C := RMd) (T := TMd) (N := 31) hx hb hB hiMd hown hK hP 0 rfl rfl 7 (by decide) hL20 (fun _ h9 => h9) rfl dMd_findDifferent_154 ?_
      refine lv_iconst (v := 4) hx hb dMd_findDifferent_157 (by decide) ?_
      refine lv_iload_n hx hb dMd_findDifferent_158 rfl (lv_at hl 2 rfl) ?_
      refine lv_imul hx hb dMd_findDifferent_159 ?_
      have hFc := va_free (wc := (wdMd_copy q_samples q_colours c_samples c_colours n_samples n_colours f_samples f_colours)) hD hS hA [1, 2] rfl
      refine gx_v (wr := [(q_this, .inr (8, [.int f_thrown, .int f_width, .int f_height, .ref q_samples, .ref r_isGiven, .ref r_gives, .int f_different, .ref q_colours, .ref q_many, .ref r_group, .int f_groups, .ref r_row, .int f_rowSize, .ref r_channelOf, .ref r_spreads, .ref r_boxMany, .ref r_there, .ref r_groupMany, .ref r_means, .ref r_sums, .int f_ready, .int f_size, .ref r_palette, .ref r_has, .ref r_takers, .ref r_takenSums, .ref r_order, .ref r_before, .int f_rounds, .ref r_roundSums, .ref r_carried])), (q_many, .inl (c_many, n_many, .inl f_many))]) (va_runS (As := [.ref q_samples, .int (4 * v1), .ref q_colours, .int (4 * v2)]) (rest := []) ⟨hx, hb, hml, hown, hB⟩ (metMd_copy l dC dI q_samples q_colours c_samples c_colours n_samples n_colours H.size f_samples f_colours (4 * v1) (4 * v2) hv) (va_cwS 4 hB (gx_gS bw716 bw717 bw53 bw718) rfl rfl rfl (by decide +kernel) ⟨(Nat.le_of_ble_eq_true rfl), (Nat.le_of_ble_eq_true rfl)⟩) (gx_preS (hP.sub (ws' := (wdMd_copy q_samples q_colours c_samples c_colours n_samples n_colours f_samples f_colours)) [1, 2] rfl) (hK.sub (tys' := [(c_samples, .int), (c_colours, .int)]) [0, 1] rfl) (hD.sub (ws' := (wdMd_copy q_samples q_colours c_samples c_colours n_samples n_colours f_samples f_colours)) [1, 2] (by decide) rfl) hZ hS hFc) rfl rfl hl.1 rfl (lv_room (Nat.le_of_ble_eq_true rfl)) dMd_findDifferent_160 ⟨(Nat.le_of_ble_eq_true rfl), (Nat.le_of_ble_eq_true rfl)⟩) hP hD hS hFc [1, 2] [0, 3] rfl rfl (by decide) (by decide) (fun u_15 H locs hv hP hD hS => ?_)
      obtain ⟨f_colours_14, rfl⟩ : ∃ z, z = u_15 := ⟨_, rfl⟩
      have hP : va_P (dC, dI) vwCl (wdMd_findDifferent q_this q_samples q_colours q_many r_isGiven r_gives r_group r_row r_channelOf r_spreads r_boxMany r_there r_groupMany r_means r_sums r_palette r_has r_takers r_takenSums r_order r_before r_roundSums r_carried c_samples c_colours c_many n_samples n_colours n_many f_thrown f_width f_height f_different f_groups f_rowSize f_ready f_size f_rounds f_samples f_colours_14 f_many) H := hP.sub [0, 2, 3, 1] rfl
      have hD : va_D A (wdMd_findDifferent q_this q_samples q_colours q_many r_isGiven r_gives r_group r_row r_channelOf r_spreads r_boxMany r_there r_groupMany r_means r_sums r_palette r_has r_takers r_takenSums r_order r_before r_roundSums r_carried c_samples c_colours c_many n_samples n_colours n_many f_thrown f_width f_height f_different f_groups f_rowSize f_ready f_size f_rounds f_samples f_colours_14 f_many) := hD.sub [0, 2, 3, 1] (by decide) rfl
      refine lv_aload_n hx hb dMd_findDifferent_163 rfl (lv_at hl 0 rfl) ?_
      refine va_get (D := (dC, dI)) (ci := 8) (v := .ref q_many) (C := RMd) (T := TMd) (N := 31) hx hb hB hiMd hown hK hP 0 rfl rfl 8 (by decide) hL23 (fun _ h9 => h9) rfl dMd_findDifferent_164 ?_
      refine lv_iload_n hx hb dMd_findDifferent_167 rfl (lv_at hl 2 rfl) ?_
      refine lv_iconst (v := 1) hx hb dMd_findDifferent_168 (by decide) ?_
      obtain ⟨h_16, hv⟩ := hv
      refine va_iast hx hb hK hP hD hS 3 2 rfl rfl h_16 dMd_findDifferent_169 (fun H locs hP hD hS => ?_)
      have hP : va_P (dC, dI) vwCl (wdMd_findDifferent q_this q_samples q_colours q_many r_isGiven r_gives r_group r_row r_channelOf r_spreads r_boxMany r_there r_groupMany r_means r_sums r_palette r_has r_takers r_takenSums r_order r_before r_roundSums r_carried c_samples c_colours c_many n_samples n_colours n_many f_thrown f_width f_height f_different f_groups f_rowSize f_ready f_size f_rounds f_samples f_colours_14 (upd f_many v2.toNatClampNeg 1)) H := hP
      have hD : va_D A (wdMd_findDifferent q_this q_samples q_colours q_many r_isGiven r_gives r_group r_row r_channelOf r_spreads r_boxMany r_there r_groupMany r_means r_sums r_palette r_has r_takers r_takenSums r_order r_before r_roundSums r_carried c_samples c_colours c_many n_samples n_colours n_many f_thrown f_width f_height f_different f_groups f_rowSize f_ready f_size f_rounds f_samples f_colours_14 (upd f_many v2.toNatClampNeg 1)) := hD
      refine lv_aload_n hx hb dMd_findDifferent_170 rfl (lv_at hl 0 rfl) ?_
      refine lv_dup hx hb dMd_findDifferent_171 rfl ?_
      refine va_get (D := (dC, dI)) (ci := 8) (v := .int f_different) (C := RMd) (T := TMd) (N := 31) hx hb hB hiMd hown hK hP 0 rfl rfl 6 (by decide) hL108 (fun _ h9 => h9) rfl dMd_findDifferent_172 ?_
      refine lv_iconst (v := 1) hx hb dMd_findDifferent_175 (by decide) ?_
      refine lv_iadd hx hb dMd_findDifferent_176 ?_
      refine lv_topi (fun w_18 ew_18 => ?_)
      have hv := hv w_18 ew_18
      refine va_put (D := (dC, dI)) (ci := 8) (v := .int w_18) (ty := .int) (C := RMd) (T := TMd) (N := 31) hx hb hB hiMd tMd tMd_ok nMd hown hK hP hD hS 0 rfl rfl 6 (by decide) hL108 (fun _ h9 => h9) rfl (by decide +kernel) rfl rfl (Nat.le_of_ble_eq_true rfl) dMd_findDifferent_177 (fun H locs hP hD hS => ?_)
      have hP : va_P (dC, dI) vwCl (wdMd_findDifferent q_this q_samples q_colours q_many r_isGiven r_gives r_group r_row r_channelOf r_spreads r_boxMany r_there r_groupMany r_means r_sums r_palette r_has r_takers r_takenSums r_order r_before r_roundSums r_carried c_samples c_colours c_many n_samples n_colours n_many f_thrown f_width f_height w_18 f_groups f_rowSize f_ready f_size f_rounds f_samples f_colours_14 (upd f_many v2.toNatClampNeg 1)) H := hP
      have hD : va_D A (wdMd_findDifferent q_this q_samples q_colours q_many r_isGiven r_gives r_group r_row r_channelOf r_spreads r_boxMany r_there r_groupMany r_means r_sums r_palette r_has r_takers r_takenSums r_order r_before r_roundSums r_carried c_samples c_colours c_many n_samples n_colours n_many f_thrown f_width f_height w_18 f_groups f_rowSize f_ready f_size f_rounds f_samples f_colours_14 (upd f_many v2.toNatClampNeg 1)) := hD
      exact j180 v1 w_18 f_colours_14 (upd f_many v2.toNatClampNeg 1) hv _ _ _ hP hD hS (lv_sub hl [0, 1] rfl)
    · have hv := hv.2 c_13
      refine lv_aload_n hx hb dMd_findDifferent_107 rfl (lv_at hl 0 rfl) ?_
      refine va_get (D := (dC, dI)) (ci := 8) (v := .ref q_colours) (C := RMd) (T := TMd) (N := 31) hx hb hB hiMd hown hK hP 0 rfl rfl 7 (by decide) hL20 (fun _ h9 => h9) rfl dMd_findDifferent_108 ?_
      refine lv_iconst (v := 4) hx hb dMd_findDifferent_111 (by decide) ?_
      refine lv_iload_n hx hb dMd_findDifferent_112 rfl (lv_at hl 3 rfl) ?_
      refine lv_imul hx hb dMd_findDifferent_113 ?_
      refine lv_iconst (v := 4) hx hb dMd_findDifferent_114 (by decide) ?_
      refine lv_isub hx hb dMd_findDifferent_115 ?_
      refine lv_aload_n hx hb dMd_findDifferent_116 rfl (lv_at hl 0 rfl) ?_
      refine va_get (D := (dC, dI)) (ci := 8) (v := .ref q_colours) (C := RMd) (T := TMd) (N := 31) hx hb hB hiMd hown hK hP 0 rfl rfl 7 (by decide) hL20 (fun _ h9 => h9) rfl dMd_findDifferent_117 ?_
      refine lv_iconst (v := 4) hx hb dMd_findDifferent_120 (by decide) ?_
      refine lv_iload_n hx hb dMd_findDifferent_121 rfl (lv_at hl 3 rfl) ?_
      refine lv_imul hx hb dMd_findDifferent_122 ?_
      have hFc := va_free (wc := (wdMd_copy__02 q_colours c_colours n_colours f_colours)) hD hS hA [2] rfl
      refine gx_v (wr := [(q_this, .inr (8, [.int f_thrown, .int f_width, .int f_height, .ref q_samples, .ref r_isGiven, .ref r_gives, .int f_different, .ref q_colours, .ref q_many, .ref r_group, .int f_groups, .ref r_row, .int f_rowSize, .ref r_channelOf, .ref r_spreads, .ref r_boxMany, .ref r_there, .ref r_groupMany, .ref r_means, .ref r_sums, .int f_ready, .int f_size, .ref r_palette, .ref r_has, .ref r_takers, .ref r_takenSums, .ref r_order, .ref r_before, .int f_rounds, .ref r_roundSums, .ref r_carried])), (q_samples, .inl (c_samples, n_samples, .inl f_samples)), (q_many, .inl (c_many, n_many, .inl f_many))]) (va_runS (As := [.ref q_colours, .int ((4 * v3) - 4), .ref q_colours, .int (4 * v3)]) (rest := []) ⟨hx, hb, hml, hown, hB⟩ (metMd_copy__02 l dC dI q_colours c_colours n_colours H.size f_colours ((4 * v3) - 4) (4 * v3) hv) (va_cwS 4 hB (gx_gS bw716 bw717 bw53 bw718) rfl rfl rfl (by decide +kernel) ⟨(Nat.le_of_ble_eq_true rfl), (Nat.le_of_ble_eq_true rfl)⟩) (gx_preS (hP.sub (ws' := (wdMd_copy__02 q_colours c_colours n_colours f_colours)) [2] rfl) (hK.sub (tys' := [(c_colours, .int)]) [1] rfl) (hD.sub (ws' := (wdMd_copy__02 q_colours c_colours n_colours f_colours)) [2] (by decide) rfl) hZ hS hFc) rfl rfl hl.1 rfl (lv_room (Nat.le_of_ble_eq_true rfl)) dMd_findDifferent_123 ⟨(Nat.le_of_ble_eq_true rfl), (Nat.le_of_ble_eq_true rfl)⟩) hP hD hS hFc [2] [0, 1, 3] rfl rfl (by decide) (by decide) (fun u_20 H locs hv hP hD hS => ?_)
      obtain ⟨f_colours_19, rfl⟩ : ∃ z, z = u_20 := ⟨_, rfl⟩
      have hP : va_P (dC, dI) vwCl (wdMd_findDifferent q_this q_samples q_colours q_many r_isGiven r_gives r_group r_row r_channelOf r_spreads r_boxMany r_there r_groupMany r_means r_sums r_palette r_has r_takers r_takenSums r_order r_before r_roundSums r_carried c_samples c_colours c_many n_samples n_colours n_many f_thrown f_width f_height f_different f_groups f_rowSize f_ready f_size f_rounds f_samples f_colours_19 f_many) H := hP.sub [0, 1, 3, 2] rfl
      have hD : va_D A (wdMd_findDifferent q_this q_samples q_colours q_many r_isGiven r_gives r_group r_row r_channelOf r_spreads r_boxMany r_there r_groupMany r_means r_sums r_palette r_has r_takers r_takenSums r_order r_before r_roundSums r_carried c_samples c_colours c_many n_samples n_colours n_many f_thrown f_width f_height f_different f_groups f_rowSize f_ready f_size f_rounds f_samples f_colours_19 f_many) := hD.sub [0, 1, 3, 2] (by decide) rfl
      refine lv_aload_n hx hb dMd_findDifferent_126 rfl (lv_at hl 0 rfl) ?_
      refine va_get (D := (dC, dI)) (ci := 8) (v := .ref q_many) (C := RMd) (T := TMd) (N := 31) hx hb hB hiMd hown hK hP 0 rfl rfl 8 (by decide) hL23 (fun _ h9 => h9) rfl dMd_findDifferent_127 ?_
      refine lv_iload_n hx hb dMd_findDifferent_130 rfl (lv_at hl 3 rfl) ?_
      refine lv_aload_n hx hb dMd_findDifferent_131 rfl (lv_at hl 0 rfl) ?_
      refine va_get (D := (dC, dI)) (ci := 8) (v := .ref q_many) (C := RMd) (T := TMd) (N := 31) hx hb hB hiMd hown hK hP 0 rfl rfl 8 (by decide) hL23 (fun _ h9 => h9) rfl dMd_findDifferent_132 ?_
      refine lv_iload_n hx hb dMd_findDifferent_135 rfl (lv_at hl 3 rfl) ?_
      refine lv_iconst (v := 1) hx hb dMd_findDifferent_136 (by decide) ?_
      refine lv_isub hx hb dMd_findDifferent_137 ?_
      obtain ⟨h_21, hv⟩ := hv
      refine va_iald hx hb hK hP 3 2 rfl rfl h_21 dMd_findDifferent_138 ?_
      obtain ⟨h_22, hv⟩ := hv
      refine va_iast hx hb hK hP hD hS 3 2 rfl rfl h_22 dMd_findDifferent_139 (fun H locs hP hD hS => ?_)
      have hP : va_P (dC, dI) vwCl (wdMd_findDifferent q_this q_samples q_colours q_many r_isGiven r_gives r_group r_row r_channelOf r_spreads r_boxMany r_there r_groupMany r_means r_sums r_palette r_has r_takers r_takenSums r_order r_before r_roundSums r_carried c_samples c_colours c_many n_samples n_colours n_many f_thrown f_width f_height f_different f_groups f_rowSize f_ready f_size f_rounds f_samples f_colours_19 (upd f_many v3.toNatClampNeg (f_many (v3 - 1).toNatClampNeg))) H := hP
      have hD : va_D A (wdMd_findDifferent q_this q_samples q_colours q_many r_isGiven r_gives r_group r_row r_channelOf r_spreads r_boxMany r_there r_groupMany r_means r_sums r_palette r_has r_takers r_takenSums r_order r_before r_roundSums r_carried c_samples c_colours c_many n_samples n_colours n_many f_thrown f_width f_height f_different f_groups f_rowSize f_ready f_size f_rounds f_samples f_colours_19 (upd f_many v3.toNatClampNeg (f_many (v3 - 1).toNatClampNeg))) := hD
      refine lv_iinc (v := v3 + (-1)) (lv' := [(3, .int (v3 + (-1))), (0, .ref q_this), (1, .int v1), (2, .int v2)]) hx hb dMd_findDifferent_140 hl (k := 3) rfl rfl (by decide) rfl (fun ls hl => ?_)
      refine lv_goto (tgt := 102) hx hb dMd_findDifferent_143 (by decide) ?_
      rw [eK102, eG] at hv
      exact hv _ _ _ hP hD hS (lv_sub hl [1, 2, 3, 0] rfl))
  rw [eG]
  refine lv_aload_n hx hb dMd_findDifferent_0 rfl (lv_at hl 0 rfl) ?_
  refine lv_iconst (v := 0) hx hb dMd_findDifferent_1 (by decide) ?_
  refine va_put (D := (dC, dI)) (ci := 8) (v := .int 0) (ty := .int) (C := RMd) (T := TMd) (N := 31) hx hb hB hiMd tMd tMd_ok nMd hown hK hP hD hS 0 rfl rfl 6 (by decide) hL108 (fun _ h9 => h9) rfl (by decide +kernel) rfl rfl (Nat.le_of_ble_eq_true rfl) dMd_findDifferent_2 (fun H locs hP hD hS => ?_)
  have hP : va_P (dC, dI) vwCl (wdMd_findDifferent q_this q_samples q_colours q_many r_isGiven r_gives r_group r_row r_channelOf r_spreads r_boxMany r_there r_groupMany r_means r_sums r_palette r_has r_takers r_takenSums r_order r_before r_roundSums r_carried c_samples c_colours c_many n_samples n_colours n_many f_thrown f_width f_height 0 f_groups f_rowSize f_ready f_size f_rounds f_samples f_colours f_many) H := hP
  have hD : va_D A (wdMd_findDifferent q_this q_samples q_colours q_many r_isGiven r_gives r_group r_row r_channelOf r_spreads r_boxMany r_there r_groupMany r_means r_sums r_palette r_has r_takers r_takenSums r_order r_before r_roundSums r_carried c_samples c_colours c_many n_samples n_colours n_many f_thrown f_width f_height 0 f_groups f_rowSize f_ready f_size f_rounds f_samples f_colours f_many) := hD
  refine lv_iconst (v := 0) hx hb dMd_findDifferent_5 (by decide) ?_
  refine lv_istore_n (lv' := [(1, .int 0), (0, .ref q_this)]) hx hb dMd_findDifferent_6 rfl hl (by decide) rfl (fun ls hl => ?_)
  rw [eK7, eG] at hv
  exact hv _ _ _ hP hD hS (lv_sub hl [1, 0] rfl)
abbrev wdMd_spreadOf (q_this q_colours q_group r_samples r_isGiven r_gives r_many r_row r_channelOf r_spreads r_boxMany r_there r_groupMany r_means r_sums r_palette r_has r_takers r_takenSums r_order r_before r_roundSums r_carried : Nat) (c_colours c_group : ClassId) (n_colours n_group : Nat) (f_thrown : Int32) (f_width : Int32) (f_height : Int32) (f_different : Int32) (f_groups : Int32) (f_rowSize : Int32) (f_ready : Int32) (f_size : Int32) (f_rounds : Int32) (f_colours : Nat → Int32) (f_group : Nat → Int32) : va_W := [(q_this, .inr (8, [.int f_thrown, .int f_width, .int f_height, .ref r_samples, .ref r_isGiven, .ref r_gives, .int f_different, .ref q_colours, .ref r_many, .ref q_group, .int f_groups, .ref r_row, .int f_rowSize, .ref r_channelOf, .ref r_spreads, .ref r_boxMany, .ref r_there, .ref r_groupMany, .ref r_means, .ref r_sums, .int f_ready, .int f_size, .ref r_palette, .ref r_has, .ref r_takers, .ref r_takenSums, .ref r_order, .ref r_before, .int f_rounds, .ref r_roundSums, .ref r_carried])), (q_colours, .inl (c_colours, n_colours, .inl f_colours)), (q_group, .inl (c_group, n_group, .inl f_group))]
set_option maxHeartbeats 4000000 in
set_option maxRecDepth 100000 in
theorem metMd_spreadOf (l : Launch) (dC : Nat → ClassId) (dI : Nat → Nat → Nat) (q_this q_colours q_group r_samples r_isGiven r_gives r_many r_row r_channelOf r_spreads r_boxMany r_there r_groupMany r_means r_sums r_palette r_has r_takers r_takenSums r_order r_before r_roundSums r_carried : Nat) (c_colours c_group : ClassId) (n_colours n_group : Nat) (sz : Nat) (f_thrown : Int32) (f_width : Int32) (f_height : Int32) (f_different : Int32) (f_groups : Int32) (f_rowSize : Int32) (f_ready : Int32) (f_size : Int32) (f_rounds : Int32) (f_colours : Nat → Int32) (f_group : Nat → Int32) (x1 : Int32) (x2 : Int32) {post : Int32 → Prop} (hw : wpMd_spreadOf n_colours n_group f_thrown f_width f_height f_different f_groups f_rowSize f_ready f_size f_rounds f_colours f_group x1 x2 post) : Met l yMd_spreadOf (.code yMd_spreadOf bMd_spreadOf 7 (some .int) :: BIG) ({ frames := 0, cells := 0, slots := 0, locals := 0 }) (va_Pc [.ref q_this, .int x1, .int x2] (gx_rpre (dC, dI) vwCl (wdMd_spreadOf q_this q_colours q_group r_samples r_isGiven r_gives r_many r_row r_channelOf r_spreads r_boxMany r_there r_groupMany r_means r_sums r_palette r_has r_takers r_takenSums r_order r_before r_roundSums r_carried c_colours c_group n_colours n_group f_thrown f_width f_height f_different f_groups f_rowSize f_ready f_size f_rounds f_colours f_group) [(c_colours, .int), (c_group, .int)] sz)) (va_Qi (fun r (u : Unit) => post r ) (fun _ _ => True) (fun q : Nat => sz ≤ q)) 0 0 (fun q : Nat => sz ≤ q) := by
  refine Met.ofW (cc := bMd_spreadOf) (maxL := 7) (ret := (some .int)) (by decide) rfl ?_
  intro p e s m args below meth c s₁ B hml hv
  obtain ⟨rfl, hsz, hP, hK, hZ⟩ := hv
  have hx := B.exec
  have hb := B.bytes
  have hr := B.returns
  have hts := atoms_spec (ws := (.code yMd_spreadOf bMd_spreadOf 7 (some .int) :: BIG)) B.pre
  have hB : ∀ w ∈ BIG, w.before _ s = true := fun w h => hts w (List.mem_cons_of_mem _ h)
  have hown : s.vm.findClass RMd = some m.cls := findClass_of_methodNamed B.named
  have hlocks := B.notSynchronized
  subst hsz
  have hA : ∀ q : Nat, s.heap.size ≤ q → (fun q : Nat => s.heap.size ≤ q) q := fun _ h => h
  have hS : va_S (fun q : Nat => s.heap.size ≤ q) s.heap s.heap [] := va_S.rf
  have hl := lv_entry ([.ref q_this, .int x1, .int x2]) (n := 7) (Nat.le_of_ble_eq_true rfl)
  rw [lg_entry_eq]
  generalize (lg_sl ([.ref q_this, .int x1, .int x2]) ++ List.replicate (7 - (lg_sl ([.ref q_this, .int x1, .int x2])).length) Slot.unset).toArray = ls at hl ⊢
  have hl : lv_has ls 7 [(0, .ref q_this), (1, .int x1), (2, .int x2)] := hl
  have hL20 := (hB _ bw622)
  have hL26 := (hB _ bw624)
  have hL108 := (hB _ bw621)
  refine gx_abs (fun G eG => ?_)
  obtain ⟨K10, eK10⟩ : ∃ K : Int32 → Int32 → Int32 → Prop, K = fun v3 v4 v5 => ∀ (H : Heap) (locs : List Loc) (ls : Array Slot), va_P (dC, dI) vwCl (wdMd_spreadOf q_this q_colours q_group r_samples r_isGiven r_gives r_many r_row r_channelOf r_spreads r_boxMany r_there r_groupMany r_means r_sums r_palette r_has r_takers r_takenSums r_order r_before r_roundSums r_carried c_colours c_group n_colours n_group f_thrown f_width f_height f_different f_groups f_rowSize f_ready f_size f_rounds f_colours f_group) H → va_S (fun q : Nat => s.heap.size ≤ q) s.heap H locs → lv_has ls 7 [(0, .ref q_this), (1, .int x1), (2, .int x2), (3, .int v3), (4, .int v4), (5, .int v5)] → G H locs 0 0 (F0 m 10 ls []) := ⟨_, rfl⟩
  have j72 : ∀ (v3 : Int32) (v4 : Int32) (v5 : Int32), vcMd_spreadOf_72 n_colours n_group f_thrown f_width f_height f_different f_groups f_rowSize f_ready f_size f_rounds f_colours f_group x1 x2 K10 post v3 v4 v5 → ∀ (H : Heap) (locs : List Loc) (ls : Array Slot), va_P (dC, dI) vwCl (wdMd_spreadOf q_this q_colours q_group r_samples r_isGiven r_gives r_many r_row r_channelOf r_spreads r_boxMany r_there r_groupMany r_means r_sums r_palette r_has r_takers r_takenSums r_order r_before r_roundSums r_carried c_colours c_group n_colours n_group f_thrown f_width f_height f_different f_groups f_rowSize f_ready f_size f_rounds f_colours f_group) H → va_S (fun q : Nat => s.heap.size ≤ q) s.heap H locs → lv_has ls 7 [(0, .ref q_this), (1, .int x1), (2, .int x2), (3, .int v3), (4, .int v4), (5, .int v5)] → G H locs 0 0 (F0 m 72 ls []) := by
    intro v3 v4 v5 hv H locs ls hP hS hl
    rw [eG]
    unfold vcMd_spreadOf_72 at hv
    refine lv_iinc (v := v5 + 1) (lv' := [(5, .int (v5 + 1)), (0, .ref q_this), (1, .int x1), (2, .int x2), (3, .int v3), (4, .int v4)]) hx hb dMd_spreadOf_72 hl (k := 5) rfl rfl (by decide) rfl (fun ls hl => ?_)
    refine lv_goto (tgt := 10) hx hb dMd_spreadOf_75 (by decide) ?_
    rw [eK10, eG] at hv
    exact hv _ _ _ hP hS (lv_sub hl [1, 2, 3, 4, 5, 0] rfl)
  rw [eG] at j72
  have j70 : ∀ (v3 : Int32) (v5 : Int32) (s0 : Int32), vcMd_spreadOf_70 n_colours n_group f_thrown f_width f_height f_different f_groups f_rowSize f_ready f_size f_rounds f_colours f_group x1 x2 K10 post v3 v5 s0 → ∀ (H : Heap) (locs : List Loc) (ls : Array Slot), va_P (dC, dI) vwCl (wdMd_spreadOf q_this q_colours q_group r_samples r_isGiven r_gives r_many r_row r_channelOf r_spreads r_boxMany r_there r_groupMany r_means r_sums r_palette r_has r_takers r_takenSums r_order r_before r_roundSums r_carried c_colours c_group n_colours n_group f_thrown f_width f_height f_different f_groups f_rowSize f_ready f_size f_rounds f_colours f_group) H → va_S (fun q : Nat => s.heap.size ≤ q) s.heap H locs → lv_has ls 7 [(0, .ref q_this), (1, .int x1), (2, .int x2), (3, .int v3), (5, .int v5)] → G H locs 0 0 (F0 m 70 ls [.int s0]) := by
    intro v3 v5 s0 hv H locs ls hP hS hl
    rw [eG]
    unfold vcMd_spreadOf_70 at hv
    refine lv_istore (lv' := [(4, .int s0), (0, .ref q_this), (1, .int x1), (2, .int x2), (3, .int v3), (5, .int v5)]) hx hb dMd_spreadOf_70 hl (by decide) rfl (fun ls hl => ?_)
    exact j72 v3 s0 v5 hv _ _ _ hP hS (lv_sub hl [1, 2, 3, 4, 0, 5] rfl)
  rw [eG] at j70
  have j55 : ∀ (v4 : Int32) (v5 : Int32) (v6 : Int32) (s0 : Int32), vcMd_spreadOf_55 n_colours n_group f_thrown f_width f_height f_different f_groups f_rowSize f_ready f_size f_rounds f_colours f_group x1 x2 K10 post v4 v5 v6 s0 → ∀ (H : Heap) (locs : List Loc) (ls : Array Slot), va_P (dC, dI) vwCl (wdMd_spreadOf q_this q_colours q_group r_samples r_isGiven r_gives r_many r_row r_channelOf r_spreads r_boxMany r_there r_groupMany r_means r_sums r_palette r_has r_takers r_takenSums r_order r_before r_roundSums r_carried c_colours c_group n_colours n_group f_thrown f_width f_height f_different f_groups f_rowSize f_ready f_size f_rounds f_colours f_group) H → va_S (fun q : Nat => s.heap.size ≤ q) s.heap H locs → lv_has ls 7 [(0, .ref q_this), (1, .int x1), (2, .int x2), (4, .int v4), (5, .int v5), (6, .int v6)] → G H locs 0 0 (F0 m 55 ls [.int s0]) := by
    intro v4 v5 v6 s0 hv H locs ls hP hS hl
    rw [eG]
    unfold vcMd_spreadOf_55 at hv
    refine lv_istore_n (lv' := [(3, .int s0), (0, .ref q_this), (1, .int x1), (2, .int x2), (4, .int v4), (5, .int v5), (6, .int v6)]) hx hb dMd_spreadOf_55 rfl hl (by decide) rfl (fun ls hl => ?_)
    refine lv_iload hx hb dMd_spreadOf_56 (lv_at hl 6 rfl) ?_
    refine lv_iload hx hb dMd_spreadOf_58 (lv_at hl 4 rfl) ?_
    refine lv_icmp_le (tgt := 68) hx hb dMd_spreadOf_60 (by decide) (fun c_1 => ?_) (fun c_1 => ?_)
    · have hv := hv.1 c_1
      refine lv_iload hx hb dMd_spreadOf_68 (lv_at hl 4 rfl) ?_
      exact j70 s0 v5 v4 hv _ _ _ hP hS (lv_sub hl [1, 2, 3, 0, 5] rfl)
    · have hv := hv.2 c_1
      refine lv_iload hx hb dMd_spreadOf_63 (lv_at hl 6 rfl) ?_
      refine lv_goto (tgt := 70) hx hb dMd_spreadOf_65 (by decide) ?_
      exact j70 s0 v5 v6 hv _ _ _ hP hS (lv_sub hl [1, 2, 3, 0, 5] rfl)
  rw [eG] at j55
  unfold wpMd_spreadOf at hw
  have hv := hw K10
  have hv := hv (by
    intro v3 v4 v5 hv
    rw [eK10]
    intro H locs ls hP hS hl
    rw [eG]
    unfold vcMd_spreadOf_10 at hv
    refine lv_iload hx hb dMd_spreadOf_10 (lv_at hl 5 rfl) ?_
    refine lv_aload_n hx hb dMd_spreadOf_12 rfl (lv_at hl 0 rfl) ?_
    refine va_get (D := (dC, dI)) (ci := 8) (v := .int f_different) (C := RMd) (T := TMd) (N := 31) hx hb hB hiMd hown hK hP 0 rfl rfl 6 (by decide) hL108 (fun _ h9 => h9) rfl dMd_spreadOf_13 ?_
    refine lv_icmp_ge (tgt := 78) hx hb dMd_spreadOf_16 (by decide) (fun c_2 => ?_) (fun c_2 => ?_)
    · have hv := hv.1 c_2
      refine lv_iload hx hb dMd_spreadOf_78 (lv_at hl 4 rfl) ?_
      refine lv_iload_n hx hb dMd_spreadOf_80 rfl (lv_at hl 3 rfl) ?_
      refine lv_isub hx hb dMd_spreadOf_81 ?_
      exact W.iret (v := v4 - v3) hx hb hr (fun t ht hW => ⟨⟨_, (), rfl, hv, trivial⟩, hS.F ht⟩) hS.2.2 dMd_spreadOf_82
    · have hv := hv.2 c_2
      refine lv_aload_n hx hb dMd_spreadOf_19 rfl (lv_at hl 0 rfl) ?_
      refine va_get (D := (dC, dI)) (ci := 8) (v := .ref q_group) (C := RMd) (T := TMd) (N := 31) hx hb hB hiMd hown hK hP 0 rfl rfl 9 (by decide) hL26 (fun _ h9 => h9) rfl dMd_spreadOf_20 ?_
      refine lv_iload hx hb dMd_spreadOf_23 (lv_at hl 5 rfl) ?_
      obtain ⟨h_3, hv⟩ := hv
      refine va_iald hx hb hK hP 2 1 rfl rfl h_3 dMd_spreadOf_25 ?_
      refine lv_iload_n hx hb dMd_spreadOf_26 rfl (lv_at hl 1 rfl) ?_
      refine lv_icmp_ne (tgt := 72) hx hb dMd_spreadOf_27 (by decide) (fun c_4 => ?_) (fun c_4 => ?_)
      · have hv := hv.1 c_4
        exact j72 v3 v4 v5 hv _ _ _ hP hS (lv_sub hl [0, 1, 2, 3, 4, 5] rfl)
      · have hv := hv.2 c_4
        refine lv_aload_n hx hb dMd_spreadOf_30 rfl (lv_at hl 0 rfl) ?_
        refine va_get (D := (dC, dI)) (ci := 8) (v := .ref q_colours) (C := RMd) (T := TMd) (N := 31) hx hb hB hiMd hown hK hP 0 rfl rfl 7 (by decide) hL20 (fun _ h9 => h9) rfl dMd_spreadOf_31 ?_
        refine lv_iconst (v := 4) hx hb dMd_spreadOf_34 (by decide) ?_
        refine lv_iload hx hb dMd_spreadOf_35 (lv_at hl 5 rfl) ?_
        refine lv_imul hx hb dMd_spreadOf_37 ?_
        refine lv_iload_n hx hb dMd_spreadOf_38 rfl (lv_at hl 2 rfl) ?_
        refine lv_iadd hx hb dMd_spreadOf_39 ?_
        obtain ⟨h_5, hv⟩ := hv
        refine va_iald hx hb hK hP 1 0 rfl rfl h_5 dMd_spreadOf_40 ?_
        refine lv_topi (fun v6_6 ev6_6 => ?_)
        have hv := hv v6_6 ev6_6
        refine lv_istore (lv' := [(6, .int v6_6), (0, .ref q_this), (1, .int x1), (2, .int x2), (3, .int v3), (4, .int v4), (5, .int v5)]) hx hb dMd_spreadOf_41 hl (by decide) rfl (fun ls hl => ?_)
        refine lv_iload hx hb dMd_spreadOf_43 (lv_at hl 0 rfl) ?_
        refine lv_iload_n hx hb dMd_spreadOf_45 rfl (lv_at hl 4 rfl) ?_
        refine lv_icmp_ge (tgt := 54) hx hb dMd_spreadOf_46 (by decide) (fun c_7 => ?_) (fun c_7 => ?_)
        · have hv := hv.1 c_7
          refine lv_iload_n hx hb dMd_spreadOf_54 rfl (lv_at hl 4 rfl) ?_
          exact j55 v4 v5 v6_6 v3 hv _ _ _ hP hS (lv_sub hl [1, 2, 3, 5, 6, 0] rfl)
        · have hv := hv.2 c_7
          refine lv_iload hx hb dMd_spreadOf_49 (lv_at hl 0 rfl) ?_
          refine lv_goto (tgt := 55) hx hb dMd_spreadOf_51 (by decide) ?_
          exact j55 v4 v5 v6_6 v6_6 hv _ _ _ hP hS (lv_sub hl [1, 2, 3, 5, 6, 0] rfl))
  rw [eG]
  refine lv_sipush (v := 256) hx hb dMd_spreadOf_0 (by decide) ?_
  refine lv_istore_n (lv' := [(3, .int 256), (0, .ref q_this), (1, .int x1), (2, .int x2)]) hx hb dMd_spreadOf_3 rfl hl (by decide) rfl (fun ls hl => ?_)
  refine lv_iconst (v := (-1)) hx hb dMd_spreadOf_4 (by decide) ?_
  refine lv_istore (lv' := [(4, .int (-1)), (3, .int 256), (0, .ref q_this), (1, .int x1), (2, .int x2)]) hx hb dMd_spreadOf_5 hl (by decide) rfl (fun ls hl => ?_)
  refine lv_iconst (v := 0) hx hb dMd_spreadOf_7 (by decide) ?_
  refine lv_istore (lv' := [(5, .int 0), (4, .int (-1)), (3, .int 256), (0, .ref q_this), (1, .int x1), (2, .int x2)]) hx hb dMd_spreadOf_8 hl (by decide) rfl (fun ls hl => ?_)
  rw [eK10, eG] at hv
  exact hv _ _ _ hP hS (lv_sub hl [3, 4, 5, 2, 1, 0] rfl)
abbrev wdMd_spread (q_this q_colours q_group q_channelOf r_samples r_isGiven r_gives r_many r_row r_spreads r_boxMany r_there r_groupMany r_means r_sums r_palette r_has r_takers r_takenSums r_order r_before r_roundSums r_carried : Nat) (c_colours c_group c_channelOf : ClassId) (n_colours n_group n_channelOf : Nat) (f_thrown : Int32) (f_width : Int32) (f_height : Int32) (f_different : Int32) (f_groups : Int32) (f_rowSize : Int32) (f_ready : Int32) (f_size : Int32) (f_rounds : Int32) (f_colours : Nat → Int32) (f_group : Nat → Int32) (f_channelOf : Nat → Int32) : va_W := [(q_this, .inr (8, [.int f_thrown, .int f_width, .int f_height, .ref r_samples, .ref r_isGiven, .ref r_gives, .int f_different, .ref q_colours, .ref r_many, .ref q_group, .int f_groups, .ref r_row, .int f_rowSize, .ref q_channelOf, .ref r_spreads, .ref r_boxMany, .ref r_there, .ref r_groupMany, .ref r_means, .ref r_sums, .int f_ready, .int f_size, .ref r_palette, .ref r_has, .ref r_takers, .ref r_takenSums, .ref r_order, .ref r_before, .int f_rounds, .ref r_roundSums, .ref r_carried])), (q_colours, .inl (c_colours, n_colours, .inl f_colours)), (q_group, .inl (c_group, n_group, .inl f_group)), (q_channelOf, .inl (c_channelOf, n_channelOf, .inl f_channelOf))]
set_option maxHeartbeats 4000000 in
set_option maxRecDepth 100000 in
theorem metMd_spread (l : Launch) (dC : Nat → ClassId) (dI : Nat → Nat → Nat) (q_this q_colours q_group q_channelOf r_samples r_isGiven r_gives r_many r_row r_spreads r_boxMany r_there r_groupMany r_means r_sums r_palette r_has r_takers r_takenSums r_order r_before r_roundSums r_carried : Nat) (c_colours c_group c_channelOf : ClassId) (n_colours n_group n_channelOf : Nat) (sz : Nat) (f_thrown : Int32) (f_width : Int32) (f_height : Int32) (f_different : Int32) (f_groups : Int32) (f_rowSize : Int32) (f_ready : Int32) (f_size : Int32) (f_rounds : Int32) (f_colours : Nat → Int32) (f_group : Nat → Int32) (f_channelOf : Nat → Int32) (x1 : Int32) {post : Int32 → (Nat → Int32) → Prop} (hw : wpMd_spread n_colours n_group n_channelOf f_thrown f_width f_height f_different f_groups f_rowSize f_ready f_size f_rounds f_colours f_group f_channelOf x1 post) : Met l yMd_spread (.code yMd_spread bMd_spread 5 (some .int) :: BIG) ({ frames := 1, cells := 0, slots := 0, locals := 26 }) (va_Pc [.ref q_this, .int x1] (gx_pre (dC, dI) vwCl (wdMd_spread q_this q_colours q_group q_channelOf r_samples r_isGiven r_gives r_many r_row r_spreads r_boxMany r_there r_groupMany r_means r_sums r_palette r_has r_takers r_takenSums r_order r_before r_roundSums r_carried c_colours c_group c_channelOf n_colours n_group n_channelOf f_thrown f_width f_height f_different f_groups f_rowSize f_ready f_size f_rounds f_colours f_group f_channelOf) [(c_colours, .int), (c_group, .int), (c_channelOf, .int)] sz)) (va_Qi (fun r (u : (Nat → Int32)) => post r u) (gx_B (dC, dI) vwCl (va_A (wdMd_spread q_this q_colours q_group q_channelOf r_samples r_isGiven r_gives r_many r_row r_spreads r_boxMany r_there r_groupMany r_means r_sums r_palette r_has r_takers r_takenSums r_order r_before r_roundSums r_carried c_colours c_group c_channelOf n_colours n_group n_channelOf f_thrown f_width f_height f_different f_groups f_rowSize f_ready f_size f_rounds f_colours f_group f_channelOf) sz) (fun (u : (Nat → Int32)) => (wdMd_spread q_this q_colours q_group q_channelOf r_samples r_isGiven r_gives r_many r_row r_spreads r_boxMany r_there r_groupMany r_means r_sums r_palette r_has r_takers r_takenSums r_order r_before r_roundSums r_carried c_colours c_group c_channelOf n_colours n_group n_channelOf f_thrown f_width f_height f_different f_groups f_rowSize f_ready f_size f_rounds f_colours f_group u))) (va_A (wdMd_spread q_this q_colours q_group q_channelOf r_samples r_isGiven r_gives r_many r_row r_spreads r_boxMany r_there r_groupMany r_means r_sums r_palette r_has r_takers r_takenSums r_order r_before r_roundSums r_carried c_colours c_group c_channelOf n_colours n_group n_channelOf f_thrown f_width f_height f_different f_groups f_rowSize f_ready f_size f_rounds f_colours f_group f_channelOf) sz)) 0 0 (va_A (wdMd_spread q_this q_colours q_group q_channelOf r_samples r_isGiven r_gives r_many r_row r_spreads r_boxMany r_there r_groupMany r_means r_sums r_palette r_has r_takers r_takenSums r_order r_before r_roundSums r_carried c_colours c_group c_channelOf n_colours n_group n_channelOf f_thrown f_width f_height f_different f_groups f_rowSize f_ready f_size f_rounds f_colours f_group f_channelOf) sz) := by
  refine Met.ofW (cc := bMd_spread) (maxL := 5) (ret := (some .int)) (by decide) rfl ?_
  intro p e s m args below meth c s₁ B hml hv
  obtain ⟨rfl, hsz, hP, hK, hD0, hZ⟩ := hv
  have hx := B.exec
  have hb := B.bytes
  have hr := B.returns
  have hts := atoms_spec (ws := (.code yMd_spread bMd_spread 5 (some .int) :: BIG)) B.pre
  have hB : ∀ w ∈ BIG, w.before _ s = true := fun w h => hts w (List.mem_cons_of_mem _ h)
  have hown : s.vm.findClass RMd = some m.cls := findClass_of_methodNamed B.named
  have hlocks := B.notSynchronized
  subst hsz
  have hD := hD0.self (sz := s.heap.size)
  generalize hAe : va_A (wdMd_spread q_this q_colours q_group q_channelOf r_samples r_isGiven r_gives r_many r_row r_spreads r_boxMany r_there r_groupMany r_means r_sums r_palette r_has r_takers r_takenSums r_order r_before r_roundSums r_carried c_colours c_group c_channelOf n_colours n_group n_channelOf f_thrown f_width f_height f_different f_groups f_rowSize f_ready f_size f_rounds f_colours f_group f_channelOf) s.heap.size = A at hD hZ ⊢
  have hA : ∀ q : Nat, s.heap.size ≤ q → A q := fun q h => by rw [← hAe]; exact Or.inr h
  have hS : va_S A s.heap s.heap [] := va_S.rf
  have hl := lv_entry ([.ref q_this, .int x1]) (n := 5) (Nat.le_of_ble_eq_true rfl)
  rw [lg_entry_eq]
  generalize (lg_sl ([.ref q_this, .int x1]) ++ List.replicate (5 - (lg_sl ([.ref q_this, .int x1])).length) Slot.unset).toArray = ls at hl ⊢
  have hl : lv_has ls 5 [(0, .ref q_this), (1, .int x1)] := hl
  have hL32 := (hB _ bw628)
  refine gx_abs (fun G eG => ?_)
  obtain ⟨K4, eK4⟩ : ∃ K : Int32 → Int32 → (Nat → Int32) → Prop, K = fun v2 v3 f_channelOf => ∀ (H : Heap) (locs : List Loc) (ls : Array Slot), va_P (dC, dI) vwCl (wdMd_spread q_this q_colours q_group q_channelOf r_samples r_isGiven r_gives r_many r_row r_spreads r_boxMany r_there r_groupMany r_means r_sums r_palette r_has r_takers r_takenSums r_order r_before r_roundSums r_carried c_colours c_group c_channelOf n_colours n_group n_channelOf f_thrown f_width f_height f_different f_groups f_rowSize f_ready f_size f_rounds f_colours f_group f_channelOf) H → va_D A (wdMd_spread q_this q_colours q_group q_channelOf r_samples r_isGiven r_gives r_many r_row r_spreads r_boxMany r_there r_groupMany r_means r_sums r_palette r_has r_takers r_takenSums r_order r_before r_roundSums r_carried c_colours c_group c_channelOf n_colours n_group n_channelOf f_thrown f_width f_height f_different f_groups f_rowSize f_ready f_size f_rounds f_colours f_group f_channelOf) → va_S A s.heap H locs → lv_has ls 5 [(0, .ref q_this), (1, .int x1), (2, .int v2), (3, .int v3)] → G H locs 0 0 (F0 m 4 ls []) := ⟨_, rfl⟩
  have j33 : ∀ (v2 : Int32) (v3 : Int32) (f_channelOf : Nat → Int32), vcMd_spread_33 n_colours n_group n_channelOf f_thrown f_width f_height f_different f_groups f_rowSize f_ready f_size f_rounds f_colours f_group x1 K4 post v2 v3 f_channelOf → ∀ (H : Heap) (locs : List Loc) (ls : Array Slot), va_P (dC, dI) vwCl (wdMd_spread q_this q_colours q_group q_channelOf r_samples r_isGiven r_gives r_many r_row r_spreads r_boxMany r_there r_groupMany r_means r_sums r_palette r_has r_takers r_takenSums r_order r_before r_roundSums r_carried c_colours c_group c_channelOf n_colours n_group n_channelOf f_thrown f_width f_height f_different f_groups f_rowSize f_ready f_size f_rounds f_colours f_group f_channelOf) H → va_D A (wdMd_spread q_this q_colours q_group q_channelOf r_samples r_isGiven r_gives r_many r_row r_spreads r_boxMany r_there r_groupMany r_means r_sums r_palette r_has r_takers r_takenSums r_order r_before r_roundSums r_carried c_colours c_group c_channelOf n_colours n_group n_channelOf f_thrown f_width f_height f_different f_groups f_rowSize f_ready f_size f_rounds f_colours f_group f_channelOf) → va_S A s.heap H locs → lv_has ls 5 [(0, .ref q_this), (1, .int x1), (2, .int v2), (3, .int v3)] → G H locs 0 0 (F0 m 33 ls []) := by
    intro v2 v3 f_channelOf hv H locs ls hP hD hS hl
    rw [eG]
    unfold vcMd_spread_33 at hv
    refine lv_iinc (v := v3 + 1) (lv' := [(3, .int (v3 + 1)), (0, .ref q_this), (1, .int x1), (2, .int v2)]) hx hb dMd_spread_33 hl (k := 3) rfl rfl (by decide) rfl (fun ls hl => ?_)
    refine lv_goto (tgt := 4) hx hb dMd_spread_36 (by decide) ?_
    rw [eK4, eG] at hv
    exact hv _ _ _ hP hD hS (lv_sub hl [1, 2, 3, 0] rfl)
  rw [eG] at j33
  unfold wpMd_spread at hw
  have hv := hw K4
  have hv := hv (by
    intro v2 v3 f_channelOf hv
    rw [eK4]
    intro H locs ls hP hD hS hl
    rw [eG]
    unfold vcMd_spread_4 at hv
    refine lv_iload_n hx hb dMd_spread_4 rfl (lv_at hl 3 rfl) ?_
    refine lv_iconst (v := 4) hx hb dMd_spread_5 (by decide) ?_
    refine lv_icmp_ge (tgt := 39) hx hb dMd_spread_6 (by decide) (fun c_1 => ?_) (fun c_1 => ?_)
    · have hv := hv.1 c_1
      refine lv_iload_n hx hb dMd_spread_39 rfl (lv_at hl 2 rfl) ?_
      exact W.iret (v := v2) hx hb hr (fun t ht hW => ⟨⟨_, f_channelOf, rfl, hv, by rw [ht]; exact hP, hD⟩, hS.F ht⟩) hS.2.2 dMd_spread_40
    · have hv := hv.2 c_1
      refine lv_aload_n hx hb dMd_spread_9 rfl (lv_at hl 0 rfl) ?_
      refine lv_iload_n hx hb dMd_spread_10 rfl (lv_at hl 1 rfl) ?_
      refine lv_iload_n hx hb dMd_spread_11 rfl (lv_at hl 3 rfl) ?_
      refine gx_ri (va_runV (As := [.int x1, .int v3]) (rest := []) ⟨hx, hb, hml, hown, hB⟩ (metMd_spreadOf l dC dI q_this q_colours q_group r_samples r_isGiven r_gives r_many r_row q_channelOf r_spreads r_boxMany r_there r_groupMany r_means r_sums r_palette r_has r_takers r_takenSums r_order r_before r_roundSums r_carried c_colours c_group n_colours n_group H.size f_thrown f_width f_height f_different f_groups f_rowSize f_ready f_size f_rounds f_colours f_group x1 v3 hv) (cwV 2 hB (gx_gV bw734 bw735 bw31 bw53 bw736) rfl rfl rfl (by decide +kernel) ⟨(Nat.le_of_ble_eq_true rfl), (Nat.le_of_ble_eq_true rfl)⟩) (gx_rpreV (ci := 8) (hP.sub (ws' := (wdMd_spreadOf q_this q_colours q_group r_samples r_isGiven r_gives r_many r_row q_channelOf r_spreads r_boxMany r_there r_groupMany r_means r_sums r_palette r_has r_takers r_takenSums r_order r_before r_roundSums r_carried c_colours c_group n_colours n_group f_thrown f_width f_height f_different f_groups f_rowSize f_ready f_size f_rounds f_colours f_group)) [0, 1, 2] rfl) (hK.sub (tys' := [(c_colours, .int), (c_group, .int)]) [0, 1] rfl) hZ hS hA rfl rfl) rfl rfl hl.1 rfl (lv_room (Nat.le_of_ble_eq_true rfl)) dMd_spread_12 ⟨(Nat.le_of_ble_eq_true rfl), (Nat.le_of_ble_eq_true rfl)⟩) hP hS hA (fun r_2 H locs hv hP hS => ?_)
      refine lv_istore (lv' := [(4, .int r_2), (0, .ref q_this), (1, .int x1), (2, .int v2), (3, .int v3)]) hx hb dMd_spread_15 hl (by decide) rfl (fun ls hl => ?_)
      refine lv_iload hx hb dMd_spread_17 (lv_at hl 0 rfl) ?_
      refine lv_iload_n hx hb dMd_spread_19 rfl (lv_at hl 3 rfl) ?_
      refine lv_icmp_le (tgt := 33) hx hb dMd_spread_20 (by decide) (fun c_4 => ?_) (fun c_4 => ?_)
      · have hv := hv.1 c_4
        exact j33 v2 v3 f_channelOf hv _ _ _ hP hD hS (lv_sub hl [1, 2, 3, 4] rfl)
      · have hv := hv.2 c_4
        refine lv_iload hx hb dMd_spread_23 (lv_at hl 0 rfl) ?_
        refine lv_istore_n (lv' := [(2, .int r_2), (4, .int r_2), (0, .ref q_this), (1, .int x1), (3, .int v3)]) hx hb dMd_spread_25 rfl hl (by decide) rfl (fun ls hl => ?_)
        refine lv_aload_n hx hb dMd_spread_26 rfl (lv_at hl 2 rfl) ?_
        refine va_get (D := (dC, dI)) (ci := 8) (v := .ref q_channelOf) (C := RMd) (T := TMd) (N := 31) hx hb hB hiMd hown hK hP 0 rfl rfl 13 (by decide) hL32 (fun _ h9 => h9) rfl dMd_spread_27 ?_
        refine lv_iload_n hx hb dMd_spread_30 rfl (lv_at hl 3 rfl) ?_
        refine lv_iload_n hx hb dMd_spread_31 rfl (lv_at hl 4 rfl) ?_
        obtain ⟨h_5, hv⟩ := hv
        refine va_iast hx hb hK hP hD hS 3 2 rfl rfl h_5 dMd_spread_32 (fun H locs hP hD hS => ?_)
        have hP : va_P (dC, dI) vwCl (wdMd_spread q_this q_colours q_group q_channelOf r_samples r_isGiven r_gives r_many r_row r_spreads r_boxMany r_there r_groupMany r_means r_sums r_palette r_has r_takers r_takenSums r_order r_before r_roundSums r_carried c_colours c_group c_channelOf n_colours n_group n_channelOf f_thrown f_width f_height f_different f_groups f_rowSize f_ready f_size f_rounds f_colours f_group (upd f_channelOf x1.toNatClampNeg v3)) H := hP
        have hD : va_D A (wdMd_spread q_this q_colours q_group q_channelOf r_samples r_isGiven r_gives r_many r_row r_spreads r_boxMany r_there r_groupMany r_means r_sums r_palette r_has r_takers r_takenSums r_order r_before r_roundSums r_carried c_colours c_group c_channelOf n_colours n_group n_channelOf f_thrown f_width f_height f_different f_groups f_rowSize f_ready f_size f_rounds f_colours f_group (upd f_channelOf x1.toNatClampNeg v3)) := hD
        exact j33 r_2 v3 (upd f_channelOf x1.toNatClampNeg v3) hv _ _ _ hP hD hS (lv_sub hl [2, 3, 0, 4] rfl))
  rw [eG]
  refine lv_iconst (v := (-1)) hx hb dMd_spread_0 (by decide) ?_
  refine lv_istore_n (lv' := [(2, .int (-1)), (0, .ref q_this), (1, .int x1)]) hx hb dMd_spread_1 rfl hl (by decide) rfl (fun ls hl => ?_)
  refine lv_iconst (v := 0) hx hb dMd_spread_2 (by decide) ?_
  refine lv_istore_n (lv' := [(3, .int 0), (2, .int (-1)), (0, .ref q_this), (1, .int x1)]) hx hb dMd_spread_3 rfl hl (by decide) rfl (fun ls hl => ?_)
  rw [eK4, eG] at hv
  exact hv _ _ _ hP hD hS (lv_sub hl [2, 3, 1, 0] rfl)
abbrev wdMd_samplesOf (q_this q_many q_group r_samples r_isGiven r_gives r_colours r_row r_channelOf r_spreads r_boxMany r_there r_groupMany r_means r_sums r_palette r_has r_takers r_takenSums r_order r_before r_roundSums r_carried : Nat) (c_many c_group : ClassId) (n_many n_group : Nat) (f_thrown : Int32) (f_width : Int32) (f_height : Int32) (f_different : Int32) (f_groups : Int32) (f_rowSize : Int32) (f_ready : Int32) (f_size : Int32) (f_rounds : Int32) (f_many : Nat → Int32) (f_group : Nat → Int32) : va_W := [(q_this, .inr (8, [.int f_thrown, .int f_width, .int f_height, .ref r_samples, .ref r_isGiven, .ref r_gives, .int f_different, .ref r_colours, .ref q_many, .ref q_group, .int f_groups, .ref r_row, .int f_rowSize, .ref r_channelOf, .ref r_spreads, .ref r_boxMany, .ref r_there, .ref r_groupMany, .ref r_means, .ref r_sums, .int f_ready, .int f_size, .ref r_palette, .ref r_has, .ref r_takers, .ref r_takenSums, .ref r_order, .ref r_before, .int f_rounds, .ref r_roundSums, .ref r_carried])), (q_many, .inl (c_many, n_many, .inl f_many)), (q_group, .inl (c_group, n_group, .inl f_group))]
set_option maxHeartbeats 4000000 in
set_option maxRecDepth 100000 in
theorem metMd_samplesOf (l : Launch) (dC : Nat → ClassId) (dI : Nat → Nat → Nat) (q_this q_many q_group r_samples r_isGiven r_gives r_colours r_row r_channelOf r_spreads r_boxMany r_there r_groupMany r_means r_sums r_palette r_has r_takers r_takenSums r_order r_before r_roundSums r_carried : Nat) (c_many c_group : ClassId) (n_many n_group : Nat) (sz : Nat) (f_thrown : Int32) (f_width : Int32) (f_height : Int32) (f_different : Int32) (f_groups : Int32) (f_rowSize : Int32) (f_ready : Int32) (f_size : Int32) (f_rounds : Int32) (f_many : Nat → Int32) (f_group : Nat → Int32) (x1 : Int32) {post : Int32 → Prop} (hw : wpMd_samplesOf n_many n_group f_thrown f_width f_height f_different f_groups f_rowSize f_ready f_size f_rounds f_many f_group x1 post) : Met l yMd_samplesOf (.code yMd_samplesOf bMd_samplesOf 4 (some .int) :: BIG) ({ frames := 0, cells := 0, slots := 0, locals := 0 }) (va_Pc [.ref q_this, .int x1] (gx_rpre (dC, dI) vwCl (wdMd_samplesOf q_this q_many q_group r_samples r_isGiven r_gives r_colours r_row r_channelOf r_spreads r_boxMany r_there r_groupMany r_means r_sums r_palette r_has r_takers r_takenSums r_order r_before r_roundSums r_carried c_many c_group n_many n_group f_thrown f_width f_height f_different f_groups f_rowSize f_ready f_size f_rounds f_many f_group) [(c_many, .int), (c_group, .int)] sz)) (va_Qi (fun r (u : Unit) => post r ) (fun _ _ => True) (fun q : Nat => sz ≤ q)) 0 0 (fun q : Nat => sz ≤ q) := by
  refine Met.ofW (cc := bMd_samplesOf) (maxL := 4) (ret := (some .int)) (by decide) rfl ?_
  intro p e s m args below meth c s₁ B hml hv
  obtain ⟨rfl, hsz, hP, hK, hZ⟩ := hv
  have hx := B.exec
  have hb := B.bytes
  have hr := B.returns
  have hts := atoms_spec (ws := (.code yMd_samplesOf bMd_samplesOf 4 (some .int) :: BIG)) B.pre
  have hB : ∀ w ∈ BIG, w.before _ s = true := fun w h => hts w (List.mem_cons_of_mem _ h)
  have hown : s.vm.findClass RMd = some m.cls := findClass_of_methodNamed B.named
  have hlocks := B.notSynchronized
  subst hsz
  have hA : ∀ q : Nat, s.heap.size ≤ q → (fun q : Nat => s.heap.size ≤ q) q := fun _ h => h
  have hS : va_S (fun q : Nat => s.heap.size ≤ q) s.heap s.heap [] := va_S.rf
  have hl := lv_entry ([.ref q_this, .int x1]) (n := 4) (Nat.le_of_ble_eq_true rfl)
  rw [lg_entry_eq]
  generalize (lg_sl ([.ref q_this, .int x1]) ++ List.replicate (4 - (lg_sl ([.ref q_this, .int x1])).length) Slot.unset).toArray = ls at hl ⊢
  have hl : lv_has ls 4 [(0, .ref q_this), (1, .int x1)] := hl
  have hL23 := (hB _ bw623)
  have hL26 := (hB _ bw624)
  have hL108 := (hB _ bw621)
  refine gx_abs (fun G eG => ?_)
  obtain ⟨K4, eK4⟩ : ∃ K : Int32 → Int32 → Prop, K = fun v2 v3 => ∀ (H : Heap) (locs : List Loc) (ls : Array Slot), va_P (dC, dI) vwCl (wdMd_samplesOf q_this q_many q_group r_samples r_isGiven r_gives r_colours r_row r_channelOf r_spreads r_boxMany r_there r_groupMany r_means r_sums r_palette r_has r_takers r_takenSums r_order r_before r_roundSums r_carried c_many c_group n_many n_group f_thrown f_width f_height f_different f_groups f_rowSize f_ready f_size f_rounds f_many f_group) H → va_S (fun q : Nat => s.heap.size ≤ q) s.heap H locs → lv_has ls 4 [(0, .ref q_this), (1, .int x1), (2, .int v2), (3, .int v3)] → G H locs 0 0 (F0 m 4 ls []) := ⟨_, rfl⟩
  have j33 : ∀ (v3 : Int32) (s0 : Int32) (s1 : Int32), vcMd_samplesOf_33 n_many n_group f_thrown f_width f_height f_different f_groups f_rowSize f_ready f_size f_rounds f_many f_group x1 K4 post v3 s0 s1 → ∀ (H : Heap) (locs : List Loc) (ls : Array Slot), va_P (dC, dI) vwCl (wdMd_samplesOf q_this q_many q_group r_samples r_isGiven r_gives r_colours r_row r_channelOf r_spreads r_boxMany r_there r_groupMany r_means r_sums r_palette r_has r_takers r_takenSums r_order r_before r_roundSums r_carried c_many c_group n_many n_group f_thrown f_width f_height f_different f_groups f_rowSize f_ready f_size f_rounds f_many f_group) H → va_S (fun q : Nat => s.heap.size ≤ q) s.heap H locs → lv_has ls 4 [(0, .ref q_this), (1, .int x1), (3, .int v3)] → G H locs 0 0 (F0 m 33 ls [.int s0, .int s1]) := by
    intro v3 s0 s1 hv H locs ls hP hS hl
    rw [eG]
    unfold vcMd_samplesOf_33 at hv
    refine lv_iadd hx hb dMd_samplesOf_33 ?_
    refine lv_topi (fun v2_1 ev2_1 => ?_)
    have hv := hv v2_1 ev2_1
    refine lv_istore_n (lv' := [(2, .int v2_1), (0, .ref q_this), (1, .int x1), (3, .int v3)]) hx hb dMd_samplesOf_34 rfl hl (by decide) rfl (fun ls hl => ?_)
    refine lv_iinc (v := v3 + 1) (lv' := [(3, .int (v3 + 1)), (2, .int v2_1), (0, .ref q_this), (1, .int x1)]) hx hb dMd_samplesOf_35 hl (k := 3) rfl rfl (by decide) rfl (fun ls hl => ?_)
    refine lv_goto (tgt := 4) hx hb dMd_samplesOf_38 (by decide) ?_
    rw [eK4, eG] at hv
    exact hv _ _ _ hP hS (lv_sub hl [2, 3, 1, 0] rfl)
  rw [eG] at j33
  unfold wpMd_samplesOf at hw
  have hv := hw K4
  have hv := hv (by
    intro v2 v3 hv
    rw [eK4]
    intro H locs ls hP hS hl
    rw [eG]
    unfold vcMd_samplesOf_4 at hv
    refine lv_iload_n hx hb dMd_samplesOf_4 rfl (lv_at hl 3 rfl) ?_
    refine lv_aload_n hx hb dMd_samplesOf_5 rfl (lv_at hl 0 rfl) ?_
    refine va_get (D := (dC, dI)) (ci := 8) (v := .int f_different) (C := RMd) (T := TMd) (N := 31) hx hb hB hiMd hown hK hP 0 rfl rfl 6 (by decide) hL108 (fun _ h9 => h9) rfl dMd_samplesOf_6 ?_
    refine lv_icmp_ge (tgt := 41) hx hb dMd_samplesOf_9 (by decide) (fun c_2 => ?_) (fun c_2 => ?_)
    · have hv := hv.1 c_2
      refine lv_iload_n hx hb dMd_samplesOf_41 rfl (lv_at hl 2 rfl) ?_
      exact W.iret (v := v2) hx hb hr (fun t ht hW => ⟨⟨_, (), rfl, hv, trivial⟩, hS.F ht⟩) hS.2.2 dMd_samplesOf_42
    · have hv := hv.2 c_2
      refine lv_iload_n hx hb dMd_samplesOf_12 rfl (lv_at hl 2 rfl) ?_
      refine lv_aload_n hx hb dMd_samplesOf_13 rfl (lv_at hl 0 rfl) ?_
      refine va_get (D := (dC, dI)) (ci := 8) (v := .ref q_group) (C := RMd) (T := TMd) (N := 31) hx hb hB hiMd hown hK hP 0 rfl rfl 9 (by decide) hL26 (fun _ h9 => h9) rfl dMd_samplesOf_14 ?_
      refine lv_iload_n hx hb dMd_samplesOf_17 rfl (lv_at hl 3 rfl) ?_
      obtain ⟨h_3, hv⟩ := hv
      refine va_iald hx hb hK hP 2 1 rfl rfl h_3 dMd_samplesOf_18 ?_
      refine lv_iload_n hx hb dMd_samplesOf_19 rfl (lv_at hl 1 rfl) ?_
      refine lv_icmp_ne (tgt := 32) hx hb dMd_samplesOf_20 (by decide) (fun c_4 => ?_) (fun c_4 => ?_)
      · have hv := hv.1 c_4
        refine lv_iconst (v := 0) hx hb dMd_samplesOf_32 (by decide) ?_
        exact j33 v3 0 v2 hv _ _ _ hP hS (lv_sub hl [0, 1, 3] rfl)
      · have hv := hv.2 c_4
        refine lv_aload_n hx hb dMd_samplesOf_23 rfl (lv_at hl 0 rfl) ?_
        refine va_get (D := (dC, dI)) (ci := 8) (v := .ref q_many) (C := RMd) (T := TMd) (N := 31) hx hb hB hiMd hown hK hP 0 rfl rfl 8 (by decide) hL23 (fun _ h9 => h9) rfl dMd_samplesOf_24 ?_
        refine lv_iload_n hx hb dMd_samplesOf_27 rfl (lv_at hl 3 rfl) ?_
        obtain ⟨h_5, hv⟩ := hv
        refine va_iald hx hb hK hP 1 0 rfl rfl h_5 dMd_samplesOf_28 ?_
        refine lv_goto (tgt := 33) hx hb dMd_samplesOf_29 (by decide) ?_
        exact j33 v3 (f_many v3.toNatClampNeg) v2 hv _ _ _ hP hS (lv_sub hl [0, 1, 3] rfl))
  rw [eG]
  refine lv_iconst (v := 0) hx hb dMd_samplesOf_0 (by decide) ?_
  refine lv_istore_n (lv' := [(2, .int 0), (0, .ref q_this), (1, .int x1)]) hx hb dMd_samplesOf_1 rfl hl (by decide) rfl (fun ls hl => ?_)
  refine lv_iconst (v := 0) hx hb dMd_samplesOf_2 (by decide) ?_
  refine lv_istore_n (lv' := [(3, .int 0), (2, .int 0), (0, .ref q_this), (1, .int x1)]) hx hb dMd_samplesOf_3 rfl hl (by decide) rfl (fun ls hl => ?_)
  rw [eK4, eG] at hv
  exact hv _ _ _ hP hS (lv_sub hl [2, 3, 1, 0] rfl)
