abbrev wdMd_sum (q_this q_roundSums r_samples r_isGiven r_gives r_colours r_many r_group r_row r_channelOf r_spreads r_boxMany r_there r_groupMany r_means r_sums r_palette r_has r_takers r_takenSums r_order r_before r_carried : Nat) (c_roundSums : ClassId) (n_roundSums : Nat) (f_thrown : Int32) (f_width : Int32) (f_height : Int32) (f_different : Int32) (f_groups : Int32) (f_rowSize : Int32) (f_ready : Int32) (f_size : Int32) (f_rounds : Int32) (f_roundSums : Nat → Int64) : va_W := [(q_this, .inr (8, [.int f_thrown, .int f_width, .int f_height, .ref r_samples, .ref r_isGiven, .ref r_gives, .int f_different, .ref r_colours, .ref r_many, .ref r_group, .int f_groups, .ref r_row, .int f_rowSize, .ref r_channelOf, .ref r_spreads, .ref r_boxMany, .ref r_there, .ref r_groupMany, .ref r_means, .ref r_sums, .int f_ready, .int f_size, .ref r_palette, .ref r_has, .ref r_takers, .ref r_takenSums, .ref r_order, .ref r_before, .int f_rounds, .ref q_roundSums, .ref r_carried])), (q_roundSums, .inl (c_roundSums, n_roundSums, .inr (.inl f_roundSums)))]
set_option maxHeartbeats 4000000 in
set_option maxRecDepth 100000 in
theorem metMd_sum (l : Launch) (dC : Nat → ClassId) (dI : Nat → Nat → Nat) (q_this q_roundSums r_samples r_isGiven r_gives r_colours r_many r_group r_row r_channelOf r_spreads r_boxMany r_there r_groupMany r_means r_sums r_palette r_has r_takers r_takenSums r_order r_before r_carried : Nat) (c_roundSums : ClassId) (n_roundSums : Nat) (sz : Nat) (f_thrown : Int32) (f_width : Int32) (f_height : Int32) (f_different : Int32) (f_groups : Int32) (f_rowSize : Int32) (f_ready : Int32) (f_size : Int32) (f_rounds : Int32) (f_roundSums : Nat → Int64) (x1 : Int32) {post : Int64 → Int32 → Prop} (hw : wpMd_sum n_roundSums f_thrown f_width f_height f_different f_groups f_rowSize f_ready f_size f_rounds f_roundSums x1 post) : Met l yMd_sum (.code yMd_sum bMd_sum 2 (some .long) :: BIG) ({ frames := 1, cells := 0, slots := 0, locals := 21 }) (va_Pc [.ref q_this, .int x1] (gx_pre (dC, dI) vwCl (wdMd_sum q_this q_roundSums r_samples r_isGiven r_gives r_colours r_many r_group r_row r_channelOf r_spreads r_boxMany r_there r_groupMany r_means r_sums r_palette r_has r_takers r_takenSums r_order r_before r_carried c_roundSums n_roundSums f_thrown f_width f_height f_different f_groups f_rowSize f_ready f_size f_rounds f_roundSums) [(c_roundSums, .long)] sz)) (va_Ql (fun r (u : Int32) => post r u) (gx_B (dC, dI) vwCl (va_A (wdMd_sum q_this q_roundSums r_samples r_isGiven r_gives r_colours r_many r_group r_row r_channelOf r_spreads r_boxMany r_there r_groupMany r_means r_sums r_palette r_has r_takers r_takenSums r_order r_before r_carried c_roundSums n_roundSums f_thrown f_width f_height f_different f_groups f_rowSize f_ready f_size f_rounds f_roundSums) sz) (fun (u : Int32) => (wdMd_sum q_this q_roundSums r_samples r_isGiven r_gives r_colours r_many r_group r_row r_channelOf r_spreads r_boxMany r_there r_groupMany r_means r_sums r_palette r_has r_takers r_takenSums r_order r_before r_carried c_roundSums n_roundSums u f_width f_height f_different f_groups f_rowSize f_ready f_size f_rounds f_roundSums))) (va_A (wdMd_sum q_this q_roundSums r_samples r_isGiven r_gives r_colours r_many r_group r_row r_channelOf r_spreads r_boxMany r_there r_groupMany r_means r_sums r_palette r_has r_takers r_takenSums r_order r_before r_carried c_roundSums n_roundSums f_thrown f_width f_height f_different f_groups f_rowSize f_ready f_size f_rounds f_roundSums) sz)) 0 0 (va_A (wdMd_sum q_this q_roundSums r_samples r_isGiven r_gives r_colours r_many r_group r_row r_channelOf r_spreads r_boxMany r_there r_groupMany r_means r_sums r_palette r_has r_takers r_takenSums r_order r_before r_carried c_roundSums n_roundSums f_thrown f_width f_height f_different f_groups f_rowSize f_ready f_size f_rounds f_roundSums) sz) := by
  refine Met.ofW (cc := bMd_sum) (maxL := 2) (ret := (some .long)) (by decide) rfl ?_
  intro p e s m args below meth c s₁ B hml hv
  obtain ⟨rfl, hsz, hP, hK, hD0, hZ⟩ := hv
  have hx := B.exec
  have hb := B.bytes
  have hr := B.returns
  have hts := atoms_spec (ws := (.code yMd_sum bMd_sum 2 (some .long) :: BIG)) B.pre
  have hB : ∀ w ∈ BIG, w.before _ s = true := fun w h => hts w (List.mem_cons_of_mem _ h)
  have hown : s.vm.findClass RMd = some m.cls := findClass_of_methodNamed B.named
  have hlocks := B.notSynchronized
  subst hsz
  have hD := hD0.self (sz := s.heap.size)
  generalize hAe : va_A (wdMd_sum q_this q_roundSums r_samples r_isGiven r_gives r_colours r_many r_group r_row r_channelOf r_spreads r_boxMany r_there r_groupMany r_means r_sums r_palette r_has r_takers r_takenSums r_order r_before r_carried c_roundSums n_roundSums f_thrown f_width f_height f_different f_groups f_rowSize f_ready f_size f_rounds f_roundSums) s.heap.size = A at hD hZ ⊢
  have hA : ∀ q : Nat, s.heap.size ≤ q → A q := fun q h => by rw [← hAe]; exact Or.inr h
  have hS : va_S A s.heap s.heap [] := va_S.rf
  have hl := lv_entry ([.ref q_this, .int x1]) (n := 2) (Nat.le_of_ble_eq_true rfl)
  rw [lg_entry_eq]
  generalize (lg_sl ([.ref q_this, .int x1]) ++ List.replicate (2 - (lg_sl ([.ref q_this, .int x1])).length) Slot.unset).toArray = ls at hl ⊢
  have hl : lv_has ls 2 [(0, .ref q_this), (1, .int x1)] := hl
  have hL72 := (hB _ bw644)
  have hL175 := (hB _ bw643)
  refine gx_abs (fun G eG => ?_)
  have j34 : ∀ (s0 : Int64) (f_thrown : Int32), vcMd_sum_34 n_roundSums f_width f_height f_different f_groups f_rowSize f_ready f_size f_rounds f_roundSums x1 post s0 f_thrown → ∀ (H : Heap) (locs : List Loc) (ls : Array Slot), va_P (dC, dI) vwCl (wdMd_sum q_this q_roundSums r_samples r_isGiven r_gives r_colours r_many r_group r_row r_channelOf r_spreads r_boxMany r_there r_groupMany r_means r_sums r_palette r_has r_takers r_takenSums r_order r_before r_carried c_roundSums n_roundSums f_thrown f_width f_height f_different f_groups f_rowSize f_ready f_size f_rounds f_roundSums) H → va_D A (wdMd_sum q_this q_roundSums r_samples r_isGiven r_gives r_colours r_many r_group r_row r_channelOf r_spreads r_boxMany r_there r_groupMany r_means r_sums r_palette r_has r_takers r_takenSums r_order r_before r_carried c_roundSums n_roundSums f_thrown f_width f_height f_different f_groups f_rowSize f_ready f_size f_rounds f_roundSums) → va_S A s.heap H locs → lv_has ls 2 [] → G H locs 0 0 (F0 m 34 ls [.long s0]) := by
    intro s0 f_thrown hv H locs ls hP hD hS hl
    rw [eG]
    unfold vcMd_sum_34 at hv
    exact W.lret (v := s0) hx hb hr (fun t ht hW => ⟨⟨_, f_thrown, rfl, hv, by rw [ht]; exact hP, hD⟩, hS.F ht⟩) hS.2.2 dMd_sum_34
  rw [eG] at j34
  have j18 : ∀ (s0 : Int32), vcMd_sum_18 n_roundSums f_width f_height f_different f_groups f_rowSize f_ready f_size f_rounds f_roundSums x1 post s0 f_thrown → ∀ (H : Heap) (locs : List Loc) (ls : Array Slot), va_P (dC, dI) vwCl (wdMd_sum q_this q_roundSums r_samples r_isGiven r_gives r_colours r_many r_group r_row r_channelOf r_spreads r_boxMany r_there r_groupMany r_means r_sums r_palette r_has r_takers r_takenSums r_order r_before r_carried c_roundSums n_roundSums f_thrown f_width f_height f_different f_groups f_rowSize f_ready f_size f_rounds f_roundSums) H → va_D A (wdMd_sum q_this q_roundSums r_samples r_isGiven r_gives r_colours r_many r_group r_row r_channelOf r_spreads r_boxMany r_there r_groupMany r_means r_sums r_palette r_has r_takers r_takenSums r_order r_before r_carried c_roundSums n_roundSums f_thrown f_width f_height f_different f_groups f_rowSize f_ready f_size f_rounds f_roundSums) → va_S A s.heap H locs → lv_has ls 2 [(0, .ref q_this), (1, .int x1)] → G H locs 0 0 (F0 m 18 ls [.int s0, .ref q_this]) := by
    intro s0 hv H locs ls hP hD hS hl
    rw [eG]
    unfold vcMd_sum_18 at hv
    have hFc := va_free (wc := (wdMd_tells q_this r_samples r_isGiven r_gives r_colours r_many r_group r_row r_channelOf r_spreads r_boxMany r_there r_groupMany r_means r_sums r_palette r_has r_takers r_takenSums r_order r_before q_roundSums r_carried f_thrown f_width f_height f_different f_groups f_rowSize f_ready f_size f_rounds)) hD hS hA [0] rfl
    refine gx_i (wr := [(q_roundSums, .inl (c_roundSums, n_roundSums, .inr (.inl f_roundSums)))]) (va_runV (As := [.int s0]) (rest := []) ⟨hx, hb, hml, hown, hB⟩ (metMd_tells l dC dI q_this r_samples r_isGiven r_gives r_colours r_many r_group r_row r_channelOf r_spreads r_boxMany r_there r_groupMany r_means r_sums r_palette r_has r_takers r_takenSums r_order r_before q_roundSums r_carried H.size f_thrown f_width f_height f_different f_groups f_rowSize f_ready f_size f_rounds s0 hv) (cwV 1 hB (gx_gV bw772 bw773 bw41 bw53 bw774) rfl rfl rfl (by decide +kernel) ⟨(Nat.le_of_ble_eq_true rfl), (Nat.le_of_ble_eq_true rfl)⟩) (gx_preV (ci := 8) (hP.sub (ws' := (wdMd_tells q_this r_samples r_isGiven r_gives r_colours r_many r_group r_row r_channelOf r_spreads r_boxMany r_there r_groupMany r_means r_sums r_palette r_has r_takers r_takenSums r_order r_before q_roundSums r_carried f_thrown f_width f_height f_different f_groups f_rowSize f_ready f_size f_rounds)) [0] rfl) (hK.sub (tys' := []) [] rfl) (hD.sub (ws' := (wdMd_tells q_this r_samples r_isGiven r_gives r_colours r_many r_group r_row r_channelOf r_spreads r_boxMany r_there r_groupMany r_means r_sums r_palette r_has r_takers r_takenSums r_order r_before q_roundSums r_carried f_thrown f_width f_height f_different f_groups f_rowSize f_ready f_size f_rounds)) [0] (by decide) rfl) hZ hS hFc rfl rfl) rfl rfl hl.1 rfl (lv_room (Nat.le_of_ble_eq_true rfl)) dMd_sum_18 ⟨(Nat.le_of_ble_eq_true rfl), (Nat.le_of_ble_eq_true rfl)⟩) hP hD hS hFc [0] [1] rfl rfl (by decide) (by decide) (fun r_2 u_3 H locs hv hP hD hS => ?_)
    obtain ⟨f_thrown_1, rfl⟩ : ∃ z, z = u_3 := ⟨_, rfl⟩
    have hP : va_P (dC, dI) vwCl (wdMd_sum q_this q_roundSums r_samples r_isGiven r_gives r_colours r_many r_group r_row r_channelOf r_spreads r_boxMany r_there r_groupMany r_means r_sums r_palette r_has r_takers r_takenSums r_order r_before r_carried c_roundSums n_roundSums f_thrown_1 f_width f_height f_different f_groups f_rowSize f_ready f_size f_rounds f_roundSums) H := hP.sub [1, 0] rfl
    have hD : va_D A (wdMd_sum q_this q_roundSums r_samples r_isGiven r_gives r_colours r_many r_group r_row r_channelOf r_spreads r_boxMany r_there r_groupMany r_means r_sums r_palette r_has r_takers r_takenSums r_order r_before r_carried c_roundSums n_roundSums f_thrown_1 f_width f_height f_different f_groups f_rowSize f_ready f_size f_rounds f_roundSums) := hD.sub [1, 0] (by decide) rfl
    refine lv_if_eq (tgt := 33) hx hb dMd_sum_21 (by decide) (fun c_4 => ?_) (fun c_4 => ?_)
    · have hv := hv.1 c_4
      refine lv_lconst (v := 0) hx hb dMd_sum_33 (by decide) ?_
      exact j34 0 f_thrown_1 hv _ _ _ hP hD hS (lv_sub hl [] rfl)
    · have hv := hv.2 c_4
      refine lv_aload_n hx hb dMd_sum_24 rfl (lv_at hl 0 rfl) ?_
      refine va_get (D := (dC, dI)) (ci := 8) (v := .ref q_roundSums) (C := RMd) (T := TMd) (N := 31) hx hb hB hiMd hown hK hP 0 rfl rfl 29 (by decide) hL72 (fun _ h9 => h9) rfl dMd_sum_25 ?_
      refine lv_iload_n hx hb dMd_sum_28 rfl (lv_at hl 1 rfl) ?_
      obtain ⟨h_5, hv⟩ := hv
      refine va_lald hx hb hK hP 1 0 rfl rfl h_5 dMd_sum_29 ?_
      refine lv_goto (tgt := 34) hx hb dMd_sum_30 (by decide) ?_
      exact j34 (f_roundSums x1.toNatClampNeg) f_thrown_1 hv _ _ _ hP hD hS (lv_sub hl [] rfl)
  rw [eG] at j18
  have j17 : vcMd_sum_17 n_roundSums f_width f_height f_different f_groups f_rowSize f_ready f_size f_rounds f_roundSums x1 post f_thrown → ∀ (H : Heap) (locs : List Loc) (ls : Array Slot), va_P (dC, dI) vwCl (wdMd_sum q_this q_roundSums r_samples r_isGiven r_gives r_colours r_many r_group r_row r_channelOf r_spreads r_boxMany r_there r_groupMany r_means r_sums r_palette r_has r_takers r_takenSums r_order r_before r_carried c_roundSums n_roundSums f_thrown f_width f_height f_different f_groups f_rowSize f_ready f_size f_rounds f_roundSums) H → va_D A (wdMd_sum q_this q_roundSums r_samples r_isGiven r_gives r_colours r_many r_group r_row r_channelOf r_spreads r_boxMany r_there r_groupMany r_means r_sums r_palette r_has r_takers r_takenSums r_order r_before r_carried c_roundSums n_roundSums f_thrown f_width f_height f_different f_groups f_rowSize f_ready f_size f_rounds f_roundSums) → va_S A s.heap H locs → lv_has ls 2 [(0, .ref q_this), (1, .int x1)] → G H locs 0 0 (F0 m 17 ls [.ref q_this]) := by
    intro  hv H locs ls hP hD hS hl
    rw [eG]
    unfold vcMd_sum_17 at hv
    refine lv_iconst (v := 0) hx hb dMd_sum_17 (by decide) ?_
    exact j18 0 hv _ _ _ hP hD hS (lv_sub hl [0, 1] rfl)
  rw [eG] at j17
  unfold wpMd_sum at hw
  have hv := hw
  rw [eG]
  refine lv_aload_n hx hb dMd_sum_0 rfl (lv_at hl 0 rfl) ?_
  refine lv_iload_n hx hb dMd_sum_1 rfl (lv_at hl 1 rfl) ?_
  refine lv_if_lt (tgt := 17) hx hb dMd_sum_2 (by decide) (fun c_6 => ?_) (fun c_6 => ?_)
  · have hv := hv.1 c_6
    exact j17  hv _ _ _ hP hD hS (lv_sub hl [0, 1] rfl)
  · have hv := hv.2 c_6
    refine lv_iload_n hx hb dMd_sum_5 rfl (lv_at hl 1 rfl) ?_
    refine lv_aload_n hx hb dMd_sum_6 rfl (lv_at hl 0 rfl) ?_
    refine va_get (D := (dC, dI)) (ci := 8) (v := .int f_rounds) (C := RMd) (T := TMd) (N := 31) hx hb hB hiMd hown hK hP 0 rfl rfl 28 (by decide) hL175 (fun _ h9 => h9) rfl dMd_sum_7 ?_
    refine lv_icmp_gt (tgt := 17) hx hb dMd_sum_10 (by decide) (fun c_7 => ?_) (fun c_7 => ?_)
    · have hv := hv.1 c_7
      exact j17  hv _ _ _ hP hD hS (lv_sub hl [0, 1] rfl)
    · have hv := hv.2 c_7
      refine lv_iconst (v := 1) hx hb dMd_sum_13 (by decide) ?_
      refine lv_goto (tgt := 18) hx hb dMd_sum_14 (by decide) ?_
      exact j18 1 hv _ _ _ hP hD hS (lv_sub hl [0, 1] rfl)
abbrev wdMd_brought  : va_W := []
set_option maxHeartbeats 4000000 in
set_option maxRecDepth 100000 in
theorem metMd_brought (l : Launch) (dC : Nat → ClassId) (dI : Nat → Nat → Nat) (sz : Nat) (x0 : Int32) {post : Int32 → Prop} (hw : wpMd_brought x0 post) : Met l yMd_brought (.code yMd_brought bMd_brought 1 (some .int) :: BIG) ({ frames := 0, cells := 0, slots := 0, locals := 0 }) (va_Pc [.int x0] (gx_pre (dC, dI) vwCl wdMd_brought [] sz)) (va_Qi (fun r (u : Unit) => post r ) (gx_B (dC, dI) vwCl (va_A wdMd_brought sz) (fun (u : Unit) => wdMd_brought)) (va_A wdMd_brought sz)) 0 0 (va_A wdMd_brought sz) := by
  refine Met.ofW (cc := bMd_brought) (maxL := 1) (ret := (some .int)) (by decide) rfl ?_
  intro p e s m args below meth c s₁ B hml hv
  obtain ⟨rfl, hsz, hP, hK, hD0, hZ⟩ := hv
  have hx := B.exec
  have hb := B.bytes
  have hr := B.returns
  have hts := atoms_spec (ws := (.code yMd_brought bMd_brought 1 (some .int) :: BIG)) B.pre
  have hB : ∀ w ∈ BIG, w.before _ s = true := fun w h => hts w (List.mem_cons_of_mem _ h)
  have hown : s.vm.findClass RMd = some m.cls := findClass_of_methodNamed B.named
  have hlocks := B.notSynchronized
  subst hsz
  have hD := hD0.self (sz := s.heap.size)
  generalize hAe : va_A wdMd_brought s.heap.size = A at hD hZ ⊢
  have hA : ∀ q : Nat, s.heap.size ≤ q → A q := fun q h => by rw [← hAe]; exact Or.inr h
  have hS : va_S A s.heap s.heap [] := va_S.rf
  have hl := lv_entry ([.int x0]) (n := 1) (Nat.le_of_ble_eq_true rfl)
  rw [lg_entry_eq]
  generalize (lg_sl ([.int x0]) ++ List.replicate (1 - (lg_sl ([.int x0])).length) Slot.unset).toArray = ls at hl ⊢
  have hl : lv_has ls 1 [(0, .int x0)] := hl
  refine gx_abs (fun G eG => ?_)
  have j22 : ∀ (s0 : Int32), vcMd_brought_22 x0 post s0 → ∀ (H : Heap) (locs : List Loc) (ls : Array Slot), va_P (dC, dI) vwCl wdMd_brought H → va_D A wdMd_brought → va_S A s.heap H locs → lv_has ls 1 [] → G H locs 0 0 (F0 m 22 ls [.int s0]) := by
    intro s0 hv H locs ls hP hD hS hl
    rw [eG]
    unfold vcMd_brought_22 at hv
    exact W.iret (v := s0) hx hb hr (fun t ht hW => ⟨⟨_, (), rfl, hv, by rw [ht]; exact hP, hD⟩, hS.F ht⟩) hS.2.2 dMd_brought_22
  rw [eG] at j22
  unfold wpMd_brought at hw
  have hv := hw
  rw [eG]
  refine lv_iload_n hx hb dMd_brought_0 rfl (lv_at hl 0 rfl) ?_
  refine lv_if_ge (tgt := 8) hx hb dMd_brought_1 (by decide) (fun c_1 => ?_) (fun c_1 => ?_)
  · have hv := hv.1 c_1
    refine lv_iload_n hx hb dMd_brought_8 rfl (lv_at hl 0 rfl) ?_
    refine lv_sipush (v := 255) hx hb dMd_brought_9 (by decide) ?_
    refine lv_icmp_le (tgt := 21) hx hb dMd_brought_12 (by decide) (fun c_2 => ?_) (fun c_2 => ?_)
    · have hv := hv.1 c_2
      refine lv_iload_n hx hb dMd_brought_21 rfl (lv_at hl 0 rfl) ?_
      exact j22 x0 hv _ _ _ hP hD hS (lv_sub hl [] rfl)
    · have hv := hv.2 c_2
      refine lv_sipush (v := 255) hx hb dMd_brought_15 (by decide) ?_
      refine lv_goto (tgt := 22) hx hb dMd_brought_18 (by decide) ?_
      exact j22 255 hv _ _ _ hP hD hS (lv_sub hl [] rfl)
  · have hv := hv.2 c_1
    refine lv_iconst (v := 0) hx hb dMd_brought_4 (by decide) ?_
    refine lv_goto (tgt := 22) hx hb dMd_brought_5 (by decide) ?_
    exact j22 0 hv _ _ _ hP hD hS (lv_sub hl [] rfl)
abbrev wdMd_missed (q_this q_samples q_palette q_has q_before q_carried r_isGiven r_gives r_colours r_many r_group r_row r_channelOf r_spreads r_boxMany r_there r_groupMany r_means r_sums r_takers r_takenSums r_order r_roundSums : Nat) (c_samples c_palette c_has c_before c_carried : ClassId) (n_samples n_palette n_has n_before n_carried : Nat) (f_thrown : Int32) (f_width : Int32) (f_height : Int32) (f_different : Int32) (f_groups : Int32) (f_rowSize : Int32) (f_ready : Int32) (f_size : Int32) (f_rounds : Int32) (f_samples : Nat → Int32) (f_palette : Nat → Int32) (f_has : Nat → Int32) (f_before : Nat → Int32) (f_carried : Nat → Int32) : va_W := [(q_this, .inr (8, [.int f_thrown, .int f_width, .int f_height, .ref q_samples, .ref r_isGiven, .ref r_gives, .int f_different, .ref r_colours, .ref r_many, .ref r_group, .int f_groups, .ref r_row, .int f_rowSize, .ref r_channelOf, .ref r_spreads, .ref r_boxMany, .ref r_there, .ref r_groupMany, .ref r_means, .ref r_sums, .int f_ready, .int f_size, .ref q_palette, .ref q_has, .ref r_takers, .ref r_takenSums, .ref r_order, .ref q_before, .int f_rounds, .ref r_roundSums, .ref q_carried])), (q_samples, .inl (c_samples, n_samples, .inl f_samples)), (q_palette, .inl (c_palette, n_palette, .inl f_palette)), (q_has, .inl (c_has, n_has, .inl f_has)), (q_before, .inl (c_before, n_before, .inl f_before)), (q_carried, .inl (c_carried, n_carried, .inl f_carried))]
set_option maxHeartbeats 4000000 in
set_option maxRecDepth 100000 in
theorem metMd_missed (l : Launch) (dC : Nat → ClassId) (dI : Nat → Nat → Nat) (q_this q_samples q_palette q_has q_before q_carried r_isGiven r_gives r_colours r_many r_group r_row r_channelOf r_spreads r_boxMany r_there r_groupMany r_means r_sums r_takers r_takenSums r_order r_roundSums : Nat) (c_samples c_palette c_has c_before c_carried : ClassId) (n_samples n_palette n_has n_before n_carried : Nat) (sz : Nat) (f_thrown : Int32) (f_width : Int32) (f_height : Int32) (f_different : Int32) (f_groups : Int32) (f_rowSize : Int32) (f_ready : Int32) (f_size : Int32) (f_rounds : Int32) (f_samples : Nat → Int32) (f_palette : Nat → Int32) (f_has : Nat → Int32) (f_before : Nat → Int32) (f_carried : Nat → Int32) (x1 : Int32) (x2 : Int32) (x3 : Int32) {post : (Nat → Int32) → (Nat → Int32) → (Nat → Int32) → Prop} (hw : wpMd_missed n_samples n_palette n_has n_before n_carried f_thrown f_width f_height f_different f_groups f_rowSize f_ready f_size f_rounds f_samples f_palette f_has f_before f_carried x1 x2 x3 post) : Met l yMd_missed (.code yMd_missed bMd_missed 8 none :: BIG) ({ frames := 2, cells := 0, slots := 0, locals := 52 }) (va_Pc [.ref q_this, .int x1, .int x2, .int x3] (gx_pre (dC, dI) vwCl (wdMd_missed q_this q_samples q_palette q_has q_before q_carried r_isGiven r_gives r_colours r_many r_group r_row r_channelOf r_spreads r_boxMany r_there r_groupMany r_means r_sums r_takers r_takenSums r_order r_roundSums c_samples c_palette c_has c_before c_carried n_samples n_palette n_has n_before n_carried f_thrown f_width f_height f_different f_groups f_rowSize f_ready f_size f_rounds f_samples f_palette f_has f_before f_carried) [(c_samples, .int), (c_palette, .int), (c_has, .int), (c_before, .int), (c_carried, .int)] sz)) (va_Qv (fun (u : (Nat → Int32) × (Nat → Int32) × (Nat → Int32)) => post u.1 u.2.1 u.2.2) (gx_B (dC, dI) vwCl (va_A (wdMd_missed q_this q_samples q_palette q_has q_before q_carried r_isGiven r_gives r_colours r_many r_group r_row r_channelOf r_spreads r_boxMany r_there r_groupMany r_means r_sums r_takers r_takenSums r_order r_roundSums c_samples c_palette c_has c_before c_carried n_samples n_palette n_has n_before n_carried f_thrown f_width f_height f_different f_groups f_rowSize f_ready f_size f_rounds f_samples f_palette f_has f_before f_carried) sz) (fun (u : (Nat → Int32) × (Nat → Int32) × (Nat → Int32)) => (wdMd_missed q_this q_samples q_palette q_has q_before q_carried r_isGiven r_gives r_colours r_many r_group r_row r_channelOf r_spreads r_boxMany r_there r_groupMany r_means r_sums r_takers r_takenSums r_order r_roundSums c_samples c_palette c_has c_before c_carried n_samples n_palette n_has n_before n_carried f_thrown f_width f_height f_different f_groups f_rowSize f_ready f_size f_rounds f_samples f_palette u.1 u.2.1 u.2.2))) (va_A (wdMd_missed q_this q_samples q_palette q_has q_before q_carried r_isGiven r_gives r_colours r_many r_group r_row r_channelOf r_spreads r_boxMany r_there r_groupMany r_means r_sums r_takers r_takenSums r_order r_roundSums c_samples c_palette c_has c_before c_carried n_samples n_palette n_has n_before n_carried f_thrown f_width f_height f_different f_groups f_rowSize f_ready f_size f_rounds f_samples f_palette f_has f_before f_carried) sz)) 0 0 (va_A (wdMd_missed q_this q_samples q_palette q_has q_before q_carried r_isGiven r_gives r_colours r_many r_group r_row r_channelOf r_spreads r_boxMany r_there r_groupMany r_means r_sums r_takers r_takenSums r_order r_roundSums c_samples c_palette c_has c_before c_carried n_samples n_palette n_has n_before n_carried f_thrown f_width f_height f_different f_groups f_rowSize f_ready f_size f_rounds f_samples f_palette f_has f_before f_carried) sz) := by
  refine Met.ofW (cc := bMd_missed) (maxL := 8) (ret := none) (by decide) rfl ?_
  intro p e s m args below meth c s₁ B hml hv
  obtain ⟨rfl, hsz, hP, hK, hD0, hZ⟩ := hv
  have hx := B.exec
  have hb := B.bytes
  have hr := B.returns
  have hts := atoms_spec (ws := (.code yMd_missed bMd_missed 8 none :: BIG)) B.pre
  have hB : ∀ w ∈ BIG, w.before _ s = true := fun w h => hts w (List.mem_cons_of_mem _ h)
  have hown : s.vm.findClass RMd = some m.cls := findClass_of_methodNamed B.named
  have hlocks := B.notSynchronized
  subst hsz
  have hD := hD0.self (sz := s.heap.size)
  generalize hAe : va_A (wdMd_missed q_this q_samples q_palette q_has q_before q_carried r_isGiven r_gives r_colours r_many r_group r_row r_channelOf r_spreads r_boxMany r_there r_groupMany r_means r_sums r_takers r_takenSums r_order r_roundSums c_samples c_palette c_has c_before c_carried n_samples n_palette n_has n_before n_carried f_thrown f_width f_height f_different f_groups f_rowSize f_ready f_size f_rounds f_samples f_palette f_has f_before f_carried) s.heap.size = A at hD hZ ⊢
  have hA : ∀ q : Nat, s.heap.size ≤ q → A q := fun q h => by rw [← hAe]; exact Or.inr h
  have hS : va_S A s.heap s.heap [] := va_S.rf
  have hl := lv_entry ([.ref q_this, .int x1, .int x2, .int x3]) (n := 8) (Nat.le_of_ble_eq_true rfl)
  rw [lg_entry_eq]
  generalize (lg_sl ([.ref q_this, .int x1, .int x2, .int x3]) ++ List.replicate (8 - (lg_sl ([.ref q_this, .int x1, .int x2, .int x3])).length) Slot.unset).toArray = ls at hl ⊢
  have hl : lv_has ls 8 [(0, .ref q_this), (1, .int x1), (2, .int x2), (3, .int x3)] := hl
  have hL7 := (hB _ bw618)
  have hL54 := (hB _ bw637)
  have hL57 := (hB _ bw638)
  have hL69 := (hB _ bw642)
  have hL75 := (hB _ bw645)
  have hL78 := (hB _ bw616)
  have hL82 := (hB _ bw617)
  refine gx_abs (fun G eG => ?_)
  obtain ⟨K13, eK13⟩ : ∃ K : Int32 → Int32 → (Nat → Int32) → (Nat → Int32) → (Nat → Int32) → Prop, K = fun v4 v5 f_has f_before f_carried => ∀ (H : Heap) (locs : List Loc) (ls : Array Slot), va_P (dC, dI) vwCl (wdMd_missed q_this q_samples q_palette q_has q_before q_carried r_isGiven r_gives r_colours r_many r_group r_row r_channelOf r_spreads r_boxMany r_there r_groupMany r_means r_sums r_takers r_takenSums r_order r_roundSums c_samples c_palette c_has c_before c_carried n_samples n_palette n_has n_before n_carried f_thrown f_width f_height f_different f_groups f_rowSize f_ready f_size f_rounds f_samples f_palette f_has f_before f_carried) H → va_D A (wdMd_missed q_this q_samples q_palette q_has q_before q_carried r_isGiven r_gives r_colours r_many r_group r_row r_channelOf r_spreads r_boxMany r_there r_groupMany r_means r_sums r_takers r_takenSums r_order r_roundSums c_samples c_palette c_has c_before c_carried n_samples n_palette n_has n_before n_carried f_thrown f_width f_height f_different f_groups f_rowSize f_ready f_size f_rounds f_samples f_palette f_has f_before f_carried) → va_S A s.heap H locs → lv_has ls 8 [(0, .ref q_this), (1, .int x1), (2, .int x2), (3, .int x3), (4, .int v4), (5, .int v5)] → G H locs 0 0 (F0 m 13 ls []) := ⟨_, rfl⟩
  obtain ⟨K102, eK102⟩ : ∃ K : Int32 → Int32 → Int32 → (Nat → Int32) → (Nat → Int32) → (Nat → Int32) → Prop, K = fun v4 v5 v6 f_has f_before f_carried => ∀ (H : Heap) (locs : List Loc) (ls : Array Slot), va_P (dC, dI) vwCl (wdMd_missed q_this q_samples q_palette q_has q_before q_carried r_isGiven r_gives r_colours r_many r_group r_row r_channelOf r_spreads r_boxMany r_there r_groupMany r_means r_sums r_takers r_takenSums r_order r_roundSums c_samples c_palette c_has c_before c_carried n_samples n_palette n_has n_before n_carried f_thrown f_width f_height f_different f_groups f_rowSize f_ready f_size f_rounds f_samples f_palette f_has f_before f_carried) H → va_D A (wdMd_missed q_this q_samples q_palette q_has q_before q_carried r_isGiven r_gives r_colours r_many r_group r_row r_channelOf r_spreads r_boxMany r_there r_groupMany r_means r_sums r_takers r_takenSums r_order r_roundSums c_samples c_palette c_has c_before c_carried n_samples n_palette n_has n_before n_carried f_thrown f_width f_height f_different f_groups f_rowSize f_ready f_size f_rounds f_samples f_palette f_has f_before f_carried) → va_S A s.heap H locs → lv_has ls 8 [(0, .ref q_this), (2, .int x2), (3, .int x3), (4, .int v4), (5, .int v5), (6, .int v6)] → G H locs 0 0 (F0 m 102 ls []) := ⟨_, rfl⟩
  have j216 : ∀ (v4 : Int32) (v5 : Int32) (v6 : Int32) (f_has : Nat → Int32) (f_before : Nat → Int32) (f_carried : Nat → Int32), vcMd_missed_216 n_samples n_palette n_has n_before n_carried f_thrown f_width f_height f_different f_groups f_rowSize f_ready f_size f_rounds f_samples f_palette x1 x2 x3 K13 K102 post v4 v5 v6 f_has f_before f_carried → ∀ (H : Heap) (locs : List Loc) (ls : Array Slot), va_P (dC, dI) vwCl (wdMd_missed q_this q_samples q_palette q_has q_before q_carried r_isGiven r_gives r_colours r_many r_group r_row r_channelOf r_spreads r_boxMany r_there r_groupMany r_means r_sums r_takers r_takenSums r_order r_roundSums c_samples c_palette c_has c_before c_carried n_samples n_palette n_has n_before n_carried f_thrown f_width f_height f_different f_groups f_rowSize f_ready f_size f_rounds f_samples f_palette f_has f_before f_carried) H → va_D A (wdMd_missed q_this q_samples q_palette q_has q_before q_carried r_isGiven r_gives r_colours r_many r_group r_row r_channelOf r_spreads r_boxMany r_there r_groupMany r_means r_sums r_takers r_takenSums r_order r_roundSums c_samples c_palette c_has c_before c_carried n_samples n_palette n_has n_before n_carried f_thrown f_width f_height f_different f_groups f_rowSize f_ready f_size f_rounds f_samples f_palette f_has f_before f_carried) → va_S A s.heap H locs → lv_has ls 8 [(0, .ref q_this), (2, .int x2), (3, .int x3), (4, .int v4), (5, .int v5), (6, .int v6)] → G H locs 0 0 (F0 m 216 ls []) := by
    intro v4 v5 v6 f_has f_before f_carried hv H locs ls hP hD hS hl
    rw [eG]
    unfold vcMd_missed_216 at hv
    refine lv_iinc (v := v6 + 1) (lv' := [(6, .int (v6 + 1)), (0, .ref q_this), (2, .int x2), (3, .int x3), (4, .int v4), (5, .int v5)]) hx hb dMd_missed_216 hl (k := 5) rfl rfl (by decide) rfl (fun ls hl => ?_)
    refine lv_goto (tgt := 102) hx hb dMd_missed_219 (by decide) ?_
    rw [eK102, eG] at hv
    exact hv _ _ _ hP hD hS (lv_sub hl [1, 2, 3, 4, 5, 0] rfl)
  rw [eG] at j216
  have j179 : ∀ (v4 : Int32) (v5 : Int32) (v6 : Int32) (v7 : Int32) (f_has : Nat → Int32) (f_before : Nat → Int32) (f_carried : Nat → Int32), vcMd_missed_179 n_samples n_palette n_has n_before n_carried f_thrown f_width f_height f_different f_groups f_rowSize f_ready f_size f_rounds f_samples f_palette x1 x2 x3 K13 K102 post v4 v5 v6 v7 f_has f_before f_carried → ∀ (H : Heap) (locs : List Loc) (ls : Array Slot), va_P (dC, dI) vwCl (wdMd_missed q_this q_samples q_palette q_has q_before q_carried r_isGiven r_gives r_colours r_many r_group r_row r_channelOf r_spreads r_boxMany r_there r_groupMany r_means r_sums r_takers r_takenSums r_order r_roundSums c_samples c_palette c_has c_before c_carried n_samples n_palette n_has n_before n_carried f_thrown f_width f_height f_different f_groups f_rowSize f_ready f_size f_rounds f_samples f_palette f_has f_before f_carried) H → va_D A (wdMd_missed q_this q_samples q_palette q_has q_before q_carried r_isGiven r_gives r_colours r_many r_group r_row r_channelOf r_spreads r_boxMany r_there r_groupMany r_means r_sums r_takers r_takenSums r_order r_roundSums c_samples c_palette c_has c_before c_carried n_samples n_palette n_has n_before n_carried f_thrown f_width f_height f_different f_groups f_rowSize f_ready f_size f_rounds f_samples f_palette f_has f_before f_carried) → va_S A s.heap H locs → lv_has ls 8 [(0, .ref q_this), (2, .int x2), (3, .int x3), (4, .int v4), (5, .int v5), (6, .int v6), (7, .int v7)] → G H locs 0 0 (F0 m 179 ls []) := by
    intro v4 v5 v6 v7 f_has f_before f_carried hv H locs ls hP hD hS hl
    rw [eG]
    unfold vcMd_missed_179 at hv
    refine lv_iload_n hx hb dMd_missed_179 rfl (lv_at hl 1 rfl) ?_
    refine lv_iconst (v := 1) hx hb dMd_missed_180 (by decide) ?_
    refine lv_iadd hx hb dMd_missed_181 ?_
    refine lv_aload_n hx hb dMd_missed_182 rfl (lv_at hl 0 rfl) ?_
    refine va_get (D := (dC, dI)) (ci := 8) (v := .int f_height) (C := RMd) (T := TMd) (N := 31) hx hb hB hiMd hown hK hP 0 rfl rfl 2 (by decide) hL82 (fun _ h9 => h9) rfl dMd_missed_183 ?_
    refine lv_icmp_ge (tgt := 216) hx hb dMd_missed_186 (by decide) (fun c_1 => ?_) (fun c_1 => ?_)
    · have hv := hv.1 c_1
      exact j216 v4 v5 v6 f_has f_before f_carried hv _ _ _ hP hD hS (lv_sub hl [0, 1, 2, 3, 4, 5] rfl)
    · have hv := hv.2 c_1
      refine lv_aload_n hx hb dMd_missed_189 rfl (lv_at hl 0 rfl) ?_
      refine va_get (D := (dC, dI)) (ci := 8) (v := .ref q_carried) (C := RMd) (T := TMd) (N := 31) hx hb hB hiMd hown hK hP 0 rfl rfl 30 (by decide) hL75 (fun _ h9 => h9) rfl dMd_missed_190 ?_
      refine lv_iconst (v := 4) hx hb dMd_missed_193 (by decide) ?_
      refine lv_iload hx hb dMd_missed_194 (lv_at hl 3 rfl) ?_
      refine lv_aload_n hx hb dMd_missed_196 rfl (lv_at hl 0 rfl) ?_
      refine va_get (D := (dC, dI)) (ci := 8) (v := .int f_width) (C := RMd) (T := TMd) (N := 31) hx hb hB hiMd hown hK hP 0 rfl rfl 1 (by decide) hL78 (fun _ h9 => h9) rfl dMd_missed_197 ?_
      refine lv_iadd hx hb dMd_missed_200 ?_
      refine lv_imul hx hb dMd_missed_201 ?_
      refine lv_iload hx hb dMd_missed_202 (lv_at hl 5 rfl) ?_
      refine lv_iadd hx hb dMd_missed_204 ?_
      refine lv_dup2_11 hx hb dMd_missed_205 rfl rfl ?_
      obtain ⟨h_2, hv⟩ := hv
      refine va_iald hx hb hK hP 5 4 rfl rfl h_2 dMd_missed_206 ?_
      refine lv_iload hx hb dMd_missed_207 (lv_at hl 6 rfl) ?_
      refine lv_iload hx hb dMd_missed_209 (lv_at hl 6 rfl) ?_
      refine lv_iconst (v := 2) hx hb dMd_missed_211 (by decide) ?_
      obtain ⟨h_3, hv⟩ := hv
      refine lv_idiv hx hb dMd_missed_212 h_3 ?_
      refine lv_isub hx hb dMd_missed_213 ?_
      refine lv_iadd hx hb dMd_missed_214 ?_
      obtain ⟨h_4, hv⟩ := hv
      refine va_iast hx hb hK hP hD hS 5 4 rfl rfl h_4 dMd_missed_215 (fun H locs hP hD hS => ?_)
      have hP : va_P (dC, dI) vwCl (wdMd_missed q_this q_samples q_palette q_has q_before q_carried r_isGiven r_gives r_colours r_many r_group r_row r_channelOf r_spreads r_boxMany r_there r_groupMany r_means r_sums r_takers r_takenSums r_order r_roundSums c_samples c_palette c_has c_before c_carried n_samples n_palette n_has n_before n_carried f_thrown f_width f_height f_different f_groups f_rowSize f_ready f_size f_rounds f_samples f_palette f_has f_before (upd f_carried ((4 * (v4 + f_width)) + v6).toNatClampNeg ((f_carried ((4 * (v4 + f_width)) + v6).toNatClampNeg) + (v7 - (v7 / 2))))) H := hP
      have hD : va_D A (wdMd_missed q_this q_samples q_palette q_has q_before q_carried r_isGiven r_gives r_colours r_many r_group r_row r_channelOf r_spreads r_boxMany r_there r_groupMany r_means r_sums r_takers r_takenSums r_order r_roundSums c_samples c_palette c_has c_before c_carried n_samples n_palette n_has n_before n_carried f_thrown f_width f_height f_different f_groups f_rowSize f_ready f_size f_rounds f_samples f_palette f_has f_before (upd f_carried ((4 * (v4 + f_width)) + v6).toNatClampNeg ((f_carried ((4 * (v4 + f_width)) + v6).toNatClampNeg) + (v7 - (v7 / 2))))) := hD
      exact j216 v4 v5 v6 f_has f_before (upd f_carried ((4 * (v4 + f_width)) + v6).toNatClampNeg ((f_carried ((4 * (v4 + f_width)) + v6).toNatClampNeg) + (v7 - (v7 / 2)))) hv _ _ _ hP hD hS (lv_sub hl [0, 1, 2, 3, 4, 5] rfl)
  rw [eG] at j179
  have j97 : ∀ (v4 : Int32) (s0 : Int32) (f_has : Nat → Int32) (f_before : Nat → Int32) (f_carried : Nat → Int32), vcMd_missed_97 n_samples n_palette n_has n_before n_carried f_thrown f_width f_height f_different f_groups f_rowSize f_ready f_size f_rounds f_samples f_palette x1 x2 x3 K13 K102 post v4 s0 f_has f_before f_carried → ∀ (H : Heap) (locs : List Loc) (ls : Array Slot), va_P (dC, dI) vwCl (wdMd_missed q_this q_samples q_palette q_has q_before q_carried r_isGiven r_gives r_colours r_many r_group r_row r_channelOf r_spreads r_boxMany r_there r_groupMany r_means r_sums r_takers r_takenSums r_order r_roundSums c_samples c_palette c_has c_before c_carried n_samples n_palette n_has n_before n_carried f_thrown f_width f_height f_different f_groups f_rowSize f_ready f_size f_rounds f_samples f_palette f_has f_before f_carried) H → va_D A (wdMd_missed q_this q_samples q_palette q_has q_before q_carried r_isGiven r_gives r_colours r_many r_group r_row r_channelOf r_spreads r_boxMany r_there r_groupMany r_means r_sums r_takers r_takenSums r_order r_roundSums c_samples c_palette c_has c_before c_carried n_samples n_palette n_has n_before n_carried f_thrown f_width f_height f_different f_groups f_rowSize f_ready f_size f_rounds f_samples f_palette f_has f_before f_carried) → va_S A s.heap H locs → lv_has ls 8 [(0, .ref q_this), (2, .int x2), (3, .int x3), (4, .int v4)] → G H locs 0 0 (F0 m 97 ls [.int s0]) := by
    intro v4 s0 f_has f_before f_carried hv H locs ls hP hD hS hl
    rw [eG]
    unfold vcMd_missed_97 at hv
    refine lv_istore (lv' := [(5, .int s0), (0, .ref q_this), (2, .int x2), (3, .int x3), (4, .int v4)]) hx hb dMd_missed_97 hl (by decide) rfl (fun ls hl => ?_)
    refine lv_iconst (v := 0) hx hb dMd_missed_99 (by decide) ?_
    refine lv_istore (lv' := [(6, .int 0), (5, .int s0), (0, .ref q_this), (2, .int x2), (3, .int x3), (4, .int v4)]) hx hb dMd_missed_100 hl (by decide) rfl (fun ls hl => ?_)
    rw [eK102, eG] at hv
    exact hv _ _ _ hP hD hS (lv_sub hl [2, 3, 4, 5, 1, 0] rfl)
  rw [eG] at j97
  have j96 : ∀ (v4 : Int32) (f_has : Nat → Int32) (f_before : Nat → Int32) (f_carried : Nat → Int32), vcMd_missed_96 n_samples n_palette n_has n_before n_carried f_thrown f_width f_height f_different f_groups f_rowSize f_ready f_size f_rounds f_samples f_palette x1 x2 x3 K13 K102 post v4 f_has f_before f_carried → ∀ (H : Heap) (locs : List Loc) (ls : Array Slot), va_P (dC, dI) vwCl (wdMd_missed q_this q_samples q_palette q_has q_before q_carried r_isGiven r_gives r_colours r_many r_group r_row r_channelOf r_spreads r_boxMany r_there r_groupMany r_means r_sums r_takers r_takenSums r_order r_roundSums c_samples c_palette c_has c_before c_carried n_samples n_palette n_has n_before n_carried f_thrown f_width f_height f_different f_groups f_rowSize f_ready f_size f_rounds f_samples f_palette f_has f_before f_carried) H → va_D A (wdMd_missed q_this q_samples q_palette q_has q_before q_carried r_isGiven r_gives r_colours r_many r_group r_row r_channelOf r_spreads r_boxMany r_there r_groupMany r_means r_sums r_takers r_takenSums r_order r_roundSums c_samples c_palette c_has c_before c_carried n_samples n_palette n_has n_before n_carried f_thrown f_width f_height f_different f_groups f_rowSize f_ready f_size f_rounds f_samples f_palette f_has f_before f_carried) → va_S A s.heap H locs → lv_has ls 8 [(0, .ref q_this), (2, .int x2), (3, .int x3), (4, .int v4)] → G H locs 0 0 (F0 m 96 ls []) := by
    intro v4 f_has f_before f_carried hv H locs ls hP hD hS hl
    rw [eG]
    unfold vcMd_missed_96 at hv
    refine lv_iconst (v := 0) hx hb dMd_missed_96 (by decide) ?_
    exact j97 v4 0 f_has f_before f_carried hv _ _ _ hP hD hS (lv_sub hl [0, 1, 2, 3] rfl)
  rw [eG] at j96
  unfold wpMd_missed at hw
  have hv := hw K13 K102
  have hv := hv (by
    intro v4 v5 f_has f_before f_carried hv
    rw [eK13]
    intro H locs ls hP hD hS hl
    rw [eG]
    unfold vcMd_missed_13 at hv
    refine lv_iload hx hb dMd_missed_13 (lv_at hl 5 rfl) ?_
    refine lv_iconst (v := 4) hx hb dMd_missed_15 (by decide) ?_
    refine lv_icmp_ge (tgt := 60) hx hb dMd_missed_16 (by decide) (fun c_6 => ?_) (fun c_6 => ?_)
    · have hv := hv.1 c_6
      refine lv_aload_n hx hb dMd_missed_60 rfl (lv_at hl 0 rfl) ?_
      refine va_get (D := (dC, dI)) (ci := 8) (v := .ref q_has) (C := RMd) (T := TMd) (N := 31) hx hb hB hiMd hown hK hP 0 rfl rfl 23 (by decide) hL57 (fun _ h9 => h9) rfl dMd_missed_61 ?_
      refine lv_iload hx hb dMd_missed_64 (lv_at hl 4 rfl) ?_
      refine lv_aload_n hx hb dMd_missed_66 rfl (lv_at hl 0 rfl) ?_
      refine lv_aload_n hx hb dMd_missed_67 rfl (lv_at hl 0 rfl) ?_
      refine va_get (D := (dC, dI)) (ci := 8) (v := .ref q_before) (C := RMd) (T := TMd) (N := 31) hx hb hB hiMd hown hK hP 0 rfl rfl 27 (by decide) hL69 (fun _ h9 => h9) rfl dMd_missed_68 ?_
      refine lv_iconst (v := 0) hx hb dMd_missed_71 (by decide) ?_
      have hFc := va_free (wc := (wdMd_nearestTo q_this q_palette q_before q_samples r_isGiven r_gives r_colours r_many r_group r_row r_channelOf r_spreads r_boxMany r_there r_groupMany r_means r_sums q_has r_takers r_takenSums r_order q_before r_roundSums q_carried c_palette c_before n_palette n_before f_thrown f_width f_height f_different f_groups f_rowSize f_ready f_size f_rounds f_palette f_before)) hD hS hA [0, 2, 4] rfl
      refine gx_i (wr := [(q_samples, .inl (c_samples, n_samples, .inl f_samples)), (q_has, .inl (c_has, n_has, .inl f_has)), (q_carried, .inl (c_carried, n_carried, .inl f_carried))]) (va_runV (As := [.ref q_before, .int 0]) (rest := [.int v4, .ref q_has]) ⟨hx, hb, hml, hown, hB⟩ (metMd_nearestTo l dC dI q_this q_palette q_before q_samples r_isGiven r_gives r_colours r_many r_group r_row r_channelOf r_spreads r_boxMany r_there r_groupMany r_means r_sums q_has r_takers r_takenSums r_order q_before r_roundSums q_carried c_palette c_before n_palette n_before H.size f_thrown f_width f_height f_different f_groups f_rowSize f_ready f_size f_rounds f_palette f_before 0 hv) (cwV 2 hB (gx_gV bw759 bw760 bw38 bw53 bw761) rfl rfl rfl (by decide +kernel) ⟨(Nat.le_of_ble_eq_true rfl), (Nat.le_of_ble_eq_true rfl)⟩) (gx_preV (ci := 8) (hP.sub (ws' := (wdMd_nearestTo q_this q_palette q_before q_samples r_isGiven r_gives r_colours r_many r_group r_row r_channelOf r_spreads r_boxMany r_there r_groupMany r_means r_sums q_has r_takers r_takenSums r_order q_before r_roundSums q_carried c_palette c_before n_palette n_before f_thrown f_width f_height f_different f_groups f_rowSize f_ready f_size f_rounds f_palette f_before)) [0, 2, 4] rfl) (hK.sub (tys' := [(c_palette, .int), (c_before, .int)]) [1, 3] rfl) (hD.sub (ws' := (wdMd_nearestTo q_this q_palette q_before q_samples r_isGiven r_gives r_colours r_many r_group r_row r_channelOf r_spreads r_boxMany r_there r_groupMany r_means r_sums q_has r_takers r_takenSums r_order q_before r_roundSums q_carried c_palette c_before n_palette n_before f_thrown f_width f_height f_different f_groups f_rowSize f_ready f_size f_rounds f_palette f_before)) [0, 2, 4] (by decide) rfl) hZ hS hFc rfl rfl) rfl rfl hl.1 rfl (lv_room (Nat.le_of_ble_eq_true rfl)) dMd_missed_72 ⟨(Nat.le_of_ble_eq_true rfl), (Nat.le_of_ble_eq_true rfl)⟩) hP hD hS hFc [0, 2, 4] [1, 3, 5] rfl rfl (by decide) (by decide) (fun r_7 u_8 H locs hv hP hD hS => ?_)
      have hP : va_P (dC, dI) vwCl (wdMd_missed q_this q_samples q_palette q_has q_before q_carried r_isGiven r_gives r_colours r_many r_group r_row r_channelOf r_spreads r_boxMany r_there r_groupMany r_means r_sums r_takers r_takenSums r_order r_roundSums c_samples c_palette c_has c_before c_carried n_samples n_palette n_has n_before n_carried f_thrown f_width f_height f_different f_groups f_rowSize f_ready f_size f_rounds f_samples f_palette f_has f_before f_carried) H := hP.sub [3, 0, 4, 1, 5, 2] rfl
      have hD : va_D A (wdMd_missed q_this q_samples q_palette q_has q_before q_carried r_isGiven r_gives r_colours r_many r_group r_row r_channelOf r_spreads r_boxMany r_there r_groupMany r_means r_sums r_takers r_takenSums r_order r_roundSums c_samples c_palette c_has c_before c_carried n_samples n_palette n_has n_before n_carried f_thrown f_width f_height f_different f_groups f_rowSize f_ready f_size f_rounds f_samples f_palette f_has f_before f_carried) := hD.sub [3, 0, 4, 1, 5, 2] (by decide) rfl
      obtain ⟨h_9, hv⟩ := hv
      refine va_iast hx hb hK hP hD hS 3 2 rfl rfl h_9 dMd_missed_75 (fun H locs hP hD hS => ?_)
      have hP : va_P (dC, dI) vwCl (wdMd_missed q_this q_samples q_palette q_has q_before q_carried r_isGiven r_gives r_colours r_many r_group r_row r_channelOf r_spreads r_boxMany r_there r_groupMany r_means r_sums r_takers r_takenSums r_order r_roundSums c_samples c_palette c_has c_before c_carried n_samples n_palette n_has n_before n_carried f_thrown f_width f_height f_different f_groups f_rowSize f_ready f_size f_rounds f_samples f_palette (upd f_has v4.toNatClampNeg r_7) f_before f_carried) H := hP
      have hD : va_D A (wdMd_missed q_this q_samples q_palette q_has q_before q_carried r_isGiven r_gives r_colours r_many r_group r_row r_channelOf r_spreads r_boxMany r_there r_groupMany r_means r_sums r_takers r_takenSums r_order r_roundSums c_samples c_palette c_has c_before c_carried n_samples n_palette n_has n_before n_carried f_thrown f_width f_height f_different f_groups f_rowSize f_ready f_size f_rounds f_samples f_palette (upd f_has v4.toNatClampNeg r_7) f_before f_carried) := hD
      refine lv_iload_n hx hb dMd_missed_76 rfl (lv_at hl 1 rfl) ?_
      refine lv_iload_n hx hb dMd_missed_77 rfl (lv_at hl 3 rfl) ?_
      refine lv_iadd hx hb dMd_missed_78 ?_
      refine lv_if_lt (tgt := 96) hx hb dMd_missed_79 (by decide) (fun c_11 => ?_) (fun c_11 => ?_)
      · have hv := hv.1 c_11
        exact j96 v4 (upd f_has v4.toNatClampNeg r_7) f_before f_carried hv _ _ _ hP hD hS (lv_sub hl [0, 2, 3, 4] rfl)
      · have hv := hv.2 c_11
        refine lv_iload_n hx hb dMd_missed_82 rfl (lv_at hl 1 rfl) ?_
        refine lv_iload_n hx hb dMd_missed_83 rfl (lv_at hl 3 rfl) ?_
        refine lv_iadd hx hb dMd_missed_84 ?_
        refine lv_aload_n hx hb dMd_missed_85 rfl (lv_at hl 0 rfl) ?_
        refine va_get (D := (dC, dI)) (ci := 8) (v := .int f_width) (C := RMd) (T := TMd) (N := 31) hx hb hB hiMd hown hK hP 0 rfl rfl 1 (by decide) hL78 (fun _ h9 => h9) rfl dMd_missed_86 ?_
        refine lv_icmp_ge (tgt := 96) hx hb dMd_missed_89 (by decide) (fun c_12 => ?_) (fun c_12 => ?_)
        · have hv := hv.1 c_12
          exact j96 v4 (upd f_has v4.toNatClampNeg r_7) f_before f_carried hv _ _ _ hP hD hS (lv_sub hl [0, 2, 3, 4] rfl)
        · have hv := hv.2 c_12
          refine lv_iconst (v := 1) hx hb dMd_missed_92 (by decide) ?_
          refine lv_goto (tgt := 97) hx hb dMd_missed_93 (by decide) ?_
          exact j97 v4 1 (upd f_has v4.toNatClampNeg r_7) f_before f_carried hv _ _ _ hP hD hS (lv_sub hl [0, 2, 3, 4] rfl)
    · have hv := hv.2 c_6
      refine lv_aload_n hx hb dMd_missed_19 rfl (lv_at hl 0 rfl) ?_
      refine va_get (D := (dC, dI)) (ci := 8) (v := .ref q_before) (C := RMd) (T := TMd) (N := 31) hx hb hB hiMd hown hK hP 0 rfl rfl 27 (by decide) hL69 (fun _ h9 => h9) rfl dMd_missed_20 ?_
      refine lv_iload hx hb dMd_missed_23 (lv_at hl 5 rfl) ?_
      refine lv_aload_n hx hb dMd_missed_25 rfl (lv_at hl 0 rfl) ?_
      refine va_get (D := (dC, dI)) (ci := 8) (v := .ref q_samples) (C := RMd) (T := TMd) (N := 31) hx hb hB hiMd hown hK hP 0 rfl rfl 3 (by decide) hL7 (fun _ h9 => h9) rfl dMd_missed_26 ?_
      refine lv_iconst (v := 4) hx hb dMd_missed_29 (by decide) ?_
      refine lv_iload hx hb dMd_missed_30 (lv_at hl 4 rfl) ?_
      refine lv_imul hx hb dMd_missed_32 ?_
      refine lv_iload hx hb dMd_missed_33 (lv_at hl 5 rfl) ?_
      refine lv_iadd hx hb dMd_missed_35 ?_
      obtain ⟨h_13, hv⟩ := hv
      refine va_iald hx hb hK hP 1 0 rfl rfl h_13 dMd_missed_36 ?_
      refine lv_aload_n hx hb dMd_missed_37 rfl (lv_at hl 0 rfl) ?_
      refine va_get (D := (dC, dI)) (ci := 8) (v := .ref q_carried) (C := RMd) (T := TMd) (N := 31) hx hb hB hiMd hown hK hP 0 rfl rfl 30 (by decide) hL75 (fun _ h9 => h9) rfl dMd_missed_38 ?_
      refine lv_iconst (v := 4) hx hb dMd_missed_41 (by decide) ?_
      refine lv_iload hx hb dMd_missed_42 (lv_at hl 4 rfl) ?_
      refine lv_imul hx hb dMd_missed_44 ?_
      refine lv_iload hx hb dMd_missed_45 (lv_at hl 5 rfl) ?_
      refine lv_iadd hx hb dMd_missed_47 ?_
      obtain ⟨h_14, hv⟩ := hv
      refine va_iald hx hb hK hP 5 4 rfl rfl h_14 dMd_missed_48 ?_
      refine lv_iadd hx hb dMd_missed_49 ?_
      have hFc := va_free (wc := wdMd_brought) hD hS hA [] rfl
      refine gx_i (wr := (wdMd_missed q_this q_samples q_palette q_has q_before q_carried r_isGiven r_gives r_colours r_many r_group r_row r_channelOf r_spreads r_boxMany r_there r_groupMany r_means r_sums r_takers r_takenSums r_order r_roundSums c_samples c_palette c_has c_before c_carried n_samples n_palette n_has n_before n_carried f_thrown f_width f_height f_different f_groups f_rowSize f_ready f_size f_rounds f_samples f_palette f_has f_before f_carried)) (va_runS (As := [.int ((f_samples ((4 * v4) + v5).toNatClampNeg) + (f_carried ((4 * v4) + v5).toNatClampNeg))]) (rest := [.int v5, .ref q_before]) ⟨hx, hb, hml, hown, hB⟩ (metMd_brought l dC dI H.size ((f_samples ((4 * v4) + v5).toNatClampNeg) + (f_carried ((4 * v4) + v5).toNatClampNeg)) hv) (va_cwS 1 hB (gx_gS bw794 bw795 bw53 bw796) rfl rfl rfl (by decide +kernel) ⟨(Nat.le_of_ble_eq_true rfl), (Nat.le_of_ble_eq_true rfl)⟩) (gx_preS (hP.sub (ws' := wdMd_brought) [] rfl) (hK.sub (tys' := []) [] rfl) (hD.sub (ws' := wdMd_brought) [] (by decide) rfl) hZ hS hFc) rfl rfl hl.1 rfl (lv_room (Nat.le_of_ble_eq_true rfl)) dMd_missed_50 ⟨(Nat.le_of_ble_eq_true rfl), (Nat.le_of_ble_eq_true rfl)⟩) hP hD hS hFc [] [0, 1, 2, 3, 4, 5] rfl rfl (by decide) (by decide) (fun r_15 u_16 H locs hv hP hD hS => ?_)
      have hP : va_P (dC, dI) vwCl (wdMd_missed q_this q_samples q_palette q_has q_before q_carried r_isGiven r_gives r_colours r_many r_group r_row r_channelOf r_spreads r_boxMany r_there r_groupMany r_means r_sums r_takers r_takenSums r_order r_roundSums c_samples c_palette c_has c_before c_carried n_samples n_palette n_has n_before n_carried f_thrown f_width f_height f_different f_groups f_rowSize f_ready f_size f_rounds f_samples f_palette f_has f_before f_carried) H := hP.sub [0, 1, 2, 3, 4, 5] rfl
      have hD : va_D A (wdMd_missed q_this q_samples q_palette q_has q_before q_carried r_isGiven r_gives r_colours r_many r_group r_row r_channelOf r_spreads r_boxMany r_there r_groupMany r_means r_sums r_takers r_takenSums r_order r_roundSums c_samples c_palette c_has c_before c_carried n_samples n_palette n_has n_before n_carried f_thrown f_width f_height f_different f_groups f_rowSize f_ready f_size f_rounds f_samples f_palette f_has f_before f_carried) := hD.sub [0, 1, 2, 3, 4, 5] (by decide) rfl
      obtain ⟨h_17, hv⟩ := hv
      refine va_iast hx hb hK hP hD hS 4 3 rfl rfl h_17 dMd_missed_53 (fun H locs hP hD hS => ?_)
      have hP : va_P (dC, dI) vwCl (wdMd_missed q_this q_samples q_palette q_has q_before q_carried r_isGiven r_gives r_colours r_many r_group r_row r_channelOf r_spreads r_boxMany r_there r_groupMany r_means r_sums r_takers r_takenSums r_order r_roundSums c_samples c_palette c_has c_before c_carried n_samples n_palette n_has n_before n_carried f_thrown f_width f_height f_different f_groups f_rowSize f_ready f_size f_rounds f_samples f_palette f_has (upd f_before v5.toNatClampNeg r_15) f_carried) H := hP
      have hD : va_D A (wdMd_missed q_this q_samples q_palette q_has q_before q_carried r_isGiven r_gives r_colours r_many r_group r_row r_channelOf r_spreads r_boxMany r_there r_groupMany r_means r_sums r_takers r_takenSums r_order r_roundSums c_samples c_palette c_has c_before c_carried n_samples n_palette n_has n_before n_carried f_thrown f_width f_height f_different f_groups f_rowSize f_ready f_size f_rounds f_samples f_palette f_has (upd f_before v5.toNatClampNeg r_15) f_carried) := hD
      refine lv_iinc (v := v5 + 1) (lv' := [(5, .int (v5 + 1)), (0, .ref q_this), (1, .int x1), (2, .int x2), (3, .int x3), (4, .int v4)]) hx hb dMd_missed_54 hl (k := 5) rfl rfl (by decide) rfl (fun ls hl => ?_)
      refine lv_goto (tgt := 13) hx hb dMd_missed_57 (by decide) ?_
      rw [eK13, eG] at hv
      exact hv _ _ _ hP hD hS (lv_sub hl [1, 2, 3, 4, 5, 0] rfl))
  have hv := hv (by
    intro v4 v5 v6 f_has f_before f_carried hv
    rw [eK102]
    intro H locs ls hP hD hS hl
    rw [eG]
    unfold vcMd_missed_102 at hv
    refine lv_iload hx hb dMd_missed_102 (lv_at hl 5 rfl) ?_
    refine lv_iconst (v := 4) hx hb dMd_missed_104 (by decide) ?_
    refine lv_icmp_ge (tgt := 222) hx hb dMd_missed_105 (by decide) (fun c_19 => ?_) (fun c_19 => ?_)
    · have hv := hv.1 c_19
      exact W.vret hx hb hr (fun t ht hW => ⟨⟨(f_has, f_before, f_carried), rfl, hv, by rw [ht]; exact hP, hD⟩, hS.F ht⟩) hS.2.2 dMd_missed_222
    · have hv := hv.2 c_19
      refine lv_aload_n hx hb dMd_missed_108 rfl (lv_at hl 0 rfl) ?_
      refine va_get (D := (dC, dI)) (ci := 8) (v := .ref q_samples) (C := RMd) (T := TMd) (N := 31) hx hb hB hiMd hown hK hP 0 rfl rfl 3 (by decide) hL7 (fun _ h9 => h9) rfl dMd_missed_109 ?_
      refine lv_iconst (v := 4) hx hb dMd_missed_112 (by decide) ?_
      refine lv_iload hx hb dMd_missed_113 (lv_at hl 3 rfl) ?_
      refine lv_imul hx hb dMd_missed_115 ?_
      refine lv_iload hx hb dMd_missed_116 (lv_at hl 5 rfl) ?_
      refine lv_iadd hx hb dMd_missed_118 ?_
      obtain ⟨h_20, hv⟩ := hv
      refine va_iald hx hb hK hP 1 0 rfl rfl h_20 dMd_missed_119 ?_
      refine lv_aload_n hx hb dMd_missed_120 rfl (lv_at hl 0 rfl) ?_
      refine va_get (D := (dC, dI)) (ci := 8) (v := .ref q_carried) (C := RMd) (T := TMd) (N := 31) hx hb hB hiMd hown hK hP 0 rfl rfl 30 (by decide) hL75 (fun _ h9 => h9) rfl dMd_missed_121 ?_
      refine lv_iconst (v := 4) hx hb dMd_missed_124 (by decide) ?_
      refine lv_iload hx hb dMd_missed_125 (lv_at hl 3 rfl) ?_
      refine lv_imul hx hb dMd_missed_127 ?_
      refine lv_iload hx hb dMd_missed_128 (lv_at hl 5 rfl) ?_
      refine lv_iadd hx hb dMd_missed_130 ?_
      obtain ⟨h_21, hv⟩ := hv
      refine va_iald hx hb hK hP 5 4 rfl rfl h_21 dMd_missed_131 ?_
      refine lv_iadd hx hb dMd_missed_132 ?_
      refine lv_aload_n hx hb dMd_missed_133 rfl (lv_at hl 0 rfl) ?_
      refine va_get (D := (dC, dI)) (ci := 8) (v := .ref q_palette) (C := RMd) (T := TMd) (N := 31) hx hb hB hiMd hown hK hP 0 rfl rfl 22 (by decide) hL54 (fun _ h9 => h9) rfl dMd_missed_134 ?_
      refine lv_iconst (v := 4) hx hb dMd_missed_137 (by decide) ?_
      refine lv_aload_n hx hb dMd_missed_138 rfl (lv_at hl 0 rfl) ?_
      refine va_get (D := (dC, dI)) (ci := 8) (v := .ref q_has) (C := RMd) (T := TMd) (N := 31) hx hb hB hiMd hown hK hP 0 rfl rfl 23 (by decide) hL57 (fun _ h9 => h9) rfl dMd_missed_139 ?_
      refine lv_iload hx hb dMd_missed_142 (lv_at hl 3 rfl) ?_
      obtain ⟨h_22, hv⟩ := hv
      refine va_iald hx hb hK hP 3 2 rfl rfl h_22 dMd_missed_144 ?_
      refine lv_imul hx hb dMd_missed_145 ?_
      refine lv_iload hx hb dMd_missed_146 (lv_at hl 5 rfl) ?_
      refine lv_iadd hx hb dMd_missed_148 ?_
      obtain ⟨h_23, hv⟩ := hv
      refine va_iald hx hb hK hP 2 1 rfl rfl h_23 dMd_missed_149 ?_
      refine lv_isub hx hb dMd_missed_150 ?_
      refine lv_topi (fun v7_24 ev7_24 => ?_)
      have hv := hv v7_24 ev7_24
      refine lv_istore (lv' := [(7, .int v7_24), (0, .ref q_this), (2, .int x2), (3, .int x3), (4, .int v4), (5, .int v5), (6, .int v6)]) hx hb dMd_missed_151 hl (by decide) rfl (fun ls hl => ?_)
      refine lv_iload hx hb dMd_missed_153 (lv_at hl 5 rfl) ?_
      refine lv_if_eq (tgt := 179) hx hb dMd_missed_155 (by decide) (fun c_25 => ?_) (fun c_25 => ?_)
      · have hv := hv.1 c_25
        exact j179 v4 v5 v6 v7_24 f_has f_before f_carried hv _ _ _ hP hD hS (lv_sub hl [1, 2, 3, 4, 5, 6, 0] rfl)
      · have hv := hv.2 c_25
        refine lv_aload_n hx hb dMd_missed_158 rfl (lv_at hl 1 rfl) ?_
        refine va_get (D := (dC, dI)) (ci := 8) (v := .ref q_carried) (C := RMd) (T := TMd) (N := 31) hx hb hB hiMd hown hK hP 0 rfl rfl 30 (by decide) hL75 (fun _ h9 => h9) rfl dMd_missed_159 ?_
        refine lv_iconst (v := 4) hx hb dMd_missed_162 (by decide) ?_
        refine lv_iload hx hb dMd_missed_163 (lv_at hl 4 rfl) ?_
        refine lv_iload_n hx hb dMd_missed_165 rfl (lv_at hl 3 rfl) ?_
        refine lv_iadd hx hb dMd_missed_166 ?_
        refine lv_imul hx hb dMd_missed_167 ?_
        refine lv_iload hx hb dMd_missed_168 (lv_at hl 6 rfl) ?_
        refine lv_iadd hx hb dMd_missed_170 ?_
        refine lv_dup2_11 hx hb dMd_missed_171 rfl rfl ?_
        obtain ⟨h_26, hv⟩ := hv
        refine va_iald hx hb hK hP 5 4 rfl rfl h_26 dMd_missed_172 ?_
        refine lv_iload hx hb dMd_missed_173 (lv_at hl 0 rfl) ?_
        refine lv_iconst (v := 2) hx hb dMd_missed_175 (by decide) ?_
        obtain ⟨h_27, hv⟩ := hv
        refine lv_idiv hx hb dMd_missed_176 h_27 ?_
        refine lv_iadd hx hb dMd_missed_177 ?_
        obtain ⟨h_28, hv⟩ := hv
        refine va_iast hx hb hK hP hD hS 5 4 rfl rfl h_28 dMd_missed_178 (fun H locs hP hD hS => ?_)
        have hP : va_P (dC, dI) vwCl (wdMd_missed q_this q_samples q_palette q_has q_before q_carried r_isGiven r_gives r_colours r_many r_group r_row r_channelOf r_spreads r_boxMany r_there r_groupMany r_means r_sums r_takers r_takenSums r_order r_roundSums c_samples c_palette c_has c_before c_carried n_samples n_palette n_has n_before n_carried f_thrown f_width f_height f_different f_groups f_rowSize f_ready f_size f_rounds f_samples f_palette f_has f_before (upd f_carried ((4 * (v4 + x3)) + v6).toNatClampNeg ((f_carried ((4 * (v4 + x3)) + v6).toNatClampNeg) + (v7_24 / 2)))) H := hP
        have hD : va_D A (wdMd_missed q_this q_samples q_palette q_has q_before q_carried r_isGiven r_gives r_colours r_many r_group r_row r_channelOf r_spreads r_boxMany r_there r_groupMany r_means r_sums r_takers r_takenSums r_order r_roundSums c_samples c_palette c_has c_before c_carried n_samples n_palette n_has n_before n_carried f_thrown f_width f_height f_different f_groups f_rowSize f_ready f_size f_rounds f_samples f_palette f_has f_before (upd f_carried ((4 * (v4 + x3)) + v6).toNatClampNeg ((f_carried ((4 * (v4 + x3)) + v6).toNatClampNeg) + (v7_24 / 2)))) := hD
        exact j179 v4 v5 v6 v7_24 f_has f_before (upd f_carried ((4 * (v4 + x3)) + v6).toNatClampNeg ((f_carried ((4 * (v4 + x3)) + v6).toNatClampNeg) + (v7_24 / 2))) hv _ _ _ hP hD hS (lv_sub hl [1, 2, 3, 4, 5, 6, 0] rfl))
  rw [eG]
  refine lv_aload_n hx hb dMd_missed_0 rfl (lv_at hl 0 rfl) ?_
  refine va_get (D := (dC, dI)) (ci := 8) (v := .int f_width) (C := RMd) (T := TMd) (N := 31) hx hb hB hiMd hown hK hP 0 rfl rfl 1 (by decide) hL78 (fun _ h9 => h9) rfl dMd_missed_1 ?_
  refine lv_iload_n hx hb dMd_missed_4 rfl (lv_at hl 2 rfl) ?_
  refine lv_imul hx hb dMd_missed_5 ?_
  refine lv_iload_n hx hb dMd_missed_6 rfl (lv_at hl 1 rfl) ?_
  refine lv_iadd hx hb dMd_missed_7 ?_
  refine lv_topi (fun v4_30 ev4_30 => ?_)
  have hv := hv v4_30 ev4_30
  refine lv_istore (lv' := [(4, .int v4_30), (0, .ref q_this), (1, .int x1), (2, .int x2), (3, .int x3)]) hx hb dMd_missed_8 hl (by decide) rfl (fun ls hl => ?_)
  refine lv_iconst (v := 0) hx hb dMd_missed_10 (by decide) ?_
  refine lv_istore (lv' := [(5, .int 0), (4, .int v4_30), (0, .ref q_this), (1, .int x1), (2, .int x2), (3, .int x3)]) hx hb dMd_missed_11 hl (by decide) rfl (fun ls hl => ?_)
  rw [eK13, eG] at hv
  exact hv _ _ _ hP hD hS (lv_sub hl [2, 3, 4, 5, 1, 0] rfl)
abbrev wdMd_dither (q_this q_samples q_palette q_has q_before q_carried r_isGiven r_gives r_colours r_many r_group r_row r_channelOf r_spreads r_boxMany r_there r_groupMany r_means r_sums r_takers r_takenSums r_order r_roundSums : Nat) (c_samples c_palette c_has c_before c_carried : ClassId) (n_samples n_palette n_has n_before n_carried : Nat) (f_thrown : Int32) (f_width : Int32) (f_height : Int32) (f_different : Int32) (f_groups : Int32) (f_rowSize : Int32) (f_ready : Int32) (f_size : Int32) (f_rounds : Int32) (f_samples : Nat → Int32) (f_palette : Nat → Int32) (f_has : Nat → Int32) (f_before : Nat → Int32) (f_carried : Nat → Int32) : va_W := [(q_this, .inr (8, [.int f_thrown, .int f_width, .int f_height, .ref q_samples, .ref r_isGiven, .ref r_gives, .int f_different, .ref r_colours, .ref r_many, .ref r_group, .int f_groups, .ref r_row, .int f_rowSize, .ref r_channelOf, .ref r_spreads, .ref r_boxMany, .ref r_there, .ref r_groupMany, .ref r_means, .ref r_sums, .int f_ready, .int f_size, .ref q_palette, .ref q_has, .ref r_takers, .ref r_takenSums, .ref r_order, .ref q_before, .int f_rounds, .ref r_roundSums, .ref q_carried])), (q_samples, .inl (c_samples, n_samples, .inl f_samples)), (q_palette, .inl (c_palette, n_palette, .inl f_palette)), (q_has, .inl (c_has, n_has, .inl f_has)), (q_before, .inl (c_before, n_before, .inl f_before)), (q_carried, .inl (c_carried, n_carried, .inl f_carried))]
set_option maxHeartbeats 4000000 in
set_option maxRecDepth 100000 in
theorem metMd_dither (l : Launch) (dC : Nat → ClassId) (dI : Nat → Nat → Nat) (q_this q_samples q_palette q_has q_before q_carried r_isGiven r_gives r_colours r_many r_group r_row r_channelOf r_spreads r_boxMany r_there r_groupMany r_means r_sums r_takers r_takenSums r_order r_roundSums : Nat) (c_samples c_palette c_has c_before c_carried : ClassId) (n_samples n_palette n_has n_before n_carried : Nat) (sz : Nat) (f_thrown : Int32) (f_width : Int32) (f_height : Int32) (f_different : Int32) (f_groups : Int32) (f_rowSize : Int32) (f_ready : Int32) (f_size : Int32) (f_rounds : Int32) (f_samples : Nat → Int32) (f_palette : Nat → Int32) (f_has : Nat → Int32) (f_before : Nat → Int32) (f_carried : Nat → Int32) (x1 : Int32) {post : Int32 → Int32 → (Nat → Int32) → (Nat → Int32) → (Nat → Int32) → Prop} (hw : wpMd_dither n_samples n_palette n_has n_before n_carried f_thrown f_width f_height f_different f_groups f_rowSize f_ready f_size f_rounds f_samples f_palette f_has f_before f_carried x1 post) : Met l yMd_dither (.code yMd_dither bMd_dither 5 (some .int) :: BIG) ({ frames := 3, cells := 0, slots := 0, locals := 79 }) (va_Pc [.ref q_this, .int x1] (gx_pre (dC, dI) vwCl (wdMd_dither q_this q_samples q_palette q_has q_before q_carried r_isGiven r_gives r_colours r_many r_group r_row r_channelOf r_spreads r_boxMany r_there r_groupMany r_means r_sums r_takers r_takenSums r_order r_roundSums c_samples c_palette c_has c_before c_carried n_samples n_palette n_has n_before n_carried f_thrown f_width f_height f_different f_groups f_rowSize f_ready f_size f_rounds f_samples f_palette f_has f_before f_carried) [(c_samples, .int), (c_palette, .int), (c_has, .int), (c_before, .int), (c_carried, .int)] sz)) (va_Qi (fun r (u : Int32 × (Nat → Int32) × (Nat → Int32) × (Nat → Int32)) => post r u.1 u.2.1 u.2.2.1 u.2.2.2) (gx_B (dC, dI) vwCl (va_A (wdMd_dither q_this q_samples q_palette q_has q_before q_carried r_isGiven r_gives r_colours r_many r_group r_row r_channelOf r_spreads r_boxMany r_there r_groupMany r_means r_sums r_takers r_takenSums r_order r_roundSums c_samples c_palette c_has c_before c_carried n_samples n_palette n_has n_before n_carried f_thrown f_width f_height f_different f_groups f_rowSize f_ready f_size f_rounds f_samples f_palette f_has f_before f_carried) sz) (fun (u : Int32 × (Nat → Int32) × (Nat → Int32) × (Nat → Int32)) => (wdMd_dither q_this q_samples q_palette q_has q_before q_carried r_isGiven r_gives r_colours r_many r_group r_row r_channelOf r_spreads r_boxMany r_there r_groupMany r_means r_sums r_takers r_takenSums r_order r_roundSums c_samples c_palette c_has c_before c_carried n_samples n_palette n_has n_before n_carried u.1 f_width f_height f_different f_groups f_rowSize f_ready f_size f_rounds f_samples f_palette u.2.1 u.2.2.1 u.2.2.2))) (va_A (wdMd_dither q_this q_samples q_palette q_has q_before q_carried r_isGiven r_gives r_colours r_many r_group r_row r_channelOf r_spreads r_boxMany r_there r_groupMany r_means r_sums r_takers r_takenSums r_order r_roundSums c_samples c_palette c_has c_before c_carried n_samples n_palette n_has n_before n_carried f_thrown f_width f_height f_different f_groups f_rowSize f_ready f_size f_rounds f_samples f_palette f_has f_before f_carried) sz)) 0 0 (va_A (wdMd_dither q_this q_samples q_palette q_has q_before q_carried r_isGiven r_gives r_colours r_many r_group r_row r_channelOf r_spreads r_boxMany r_there r_groupMany r_means r_sums r_takers r_takenSums r_order r_roundSums c_samples c_palette c_has c_before c_carried n_samples n_palette n_has n_before n_carried f_thrown f_width f_height f_different f_groups f_rowSize f_ready f_size f_rounds f_samples f_palette f_has f_before f_carried) sz) := by
  refine Met.ofW (cc := bMd_dither) (maxL := 5) (ret := (some .int)) (by decide) rfl ?_
  intro p e s m args below meth c s₁ B hml hv
  obtain ⟨rfl, hsz, hP, hK, hD0, hZ⟩ := hv
  have hx := B.exec
  have hb := B.bytes
  have hr := B.returns
  have hts := atoms_spec (ws := (.code yMd_dither bMd_dither 5 (some .int) :: BIG)) B.pre
  have hB : ∀ w ∈ BIG, w.before _ s = true := fun w h => hts w (List.mem_cons_of_mem _ h)
  have hown : s.vm.findClass RMd = some m.cls := findClass_of_methodNamed B.named
  have hlocks := B.notSynchronized
  subst hsz
  have hD := hD0.self (sz := s.heap.size)
  generalize hAe : va_A (wdMd_dither q_this q_samples q_palette q_has q_before q_carried r_isGiven r_gives r_colours r_many r_group r_row r_channelOf r_spreads r_boxMany r_there r_groupMany r_means r_sums r_takers r_takenSums r_order r_roundSums c_samples c_palette c_has c_before c_carried n_samples n_palette n_has n_before n_carried f_thrown f_width f_height f_different f_groups f_rowSize f_ready f_size f_rounds f_samples f_palette f_has f_before f_carried) s.heap.size = A at hD hZ ⊢
  have hA : ∀ q : Nat, s.heap.size ≤ q → A q := fun q h => by rw [← hAe]; exact Or.inr h
  have hS : va_S A s.heap s.heap [] := va_S.rf
  have hl := lv_entry ([.ref q_this, .int x1]) (n := 5) (Nat.le_of_ble_eq_true rfl)
  rw [lg_entry_eq]
  generalize (lg_sl ([.ref q_this, .int x1]) ++ List.replicate (5 - (lg_sl ([.ref q_this, .int x1])).length) Slot.unset).toArray = ls at hl ⊢
  have hl : lv_has ls 5 [(0, .ref q_this), (1, .int x1)] := hl
  have hL7 := (hB _ bw618)
  have hL57 := (hB _ bw638)
  have hL75 := (hB _ bw645)
  have hL78 := (hB _ bw616)
  have hL82 := (hB _ bw617)
  refine gx_abs (fun G eG => ?_)
  obtain ⟨K25, eK25⟩ : ∃ K : Int32 → Int32 → (Nat → Int32) → (Nat → Int32) → (Nat → Int32) → Prop, K = fun v2 f_thrown f_has f_before f_carried => ∀ (H : Heap) (locs : List Loc) (ls : Array Slot), va_P (dC, dI) vwCl (wdMd_dither q_this q_samples q_palette q_has q_before q_carried r_isGiven r_gives r_colours r_many r_group r_row r_channelOf r_spreads r_boxMany r_there r_groupMany r_means r_sums r_takers r_takenSums r_order r_roundSums c_samples c_palette c_has c_before c_carried n_samples n_palette n_has n_before n_carried f_thrown f_width f_height f_different f_groups f_rowSize f_ready f_size f_rounds f_samples f_palette f_has f_before f_carried) H → va_D A (wdMd_dither q_this q_samples q_palette q_has q_before q_carried r_isGiven r_gives r_colours r_many r_group r_row r_channelOf r_spreads r_boxMany r_there r_groupMany r_means r_sums r_takers r_takenSums r_order r_roundSums c_samples c_palette c_has c_before c_carried n_samples n_palette n_has n_before n_carried f_thrown f_width f_height f_different f_groups f_rowSize f_ready f_size f_rounds f_samples f_palette f_has f_before f_carried) → va_S A s.heap H locs → lv_has ls 5 [(0, .ref q_this), (1, .int x1), (2, .int v2)] → G H locs 0 0 (F0 m 25 ls []) := ⟨_, rfl⟩
  obtain ⟨K55, eK55⟩ : ∃ K : Int32 → Int32 → (Nat → Int32) → (Nat → Int32) → (Nat → Int32) → Prop, K = fun v2 f_thrown f_has f_before f_carried => ∀ (H : Heap) (locs : List Loc) (ls : Array Slot), va_P (dC, dI) vwCl (wdMd_dither q_this q_samples q_palette q_has q_before q_carried r_isGiven r_gives r_colours r_many r_group r_row r_channelOf r_spreads r_boxMany r_there r_groupMany r_means r_sums r_takers r_takenSums r_order r_roundSums c_samples c_palette c_has c_before c_carried n_samples n_palette n_has n_before n_carried f_thrown f_width f_height f_different f_groups f_rowSize f_ready f_size f_rounds f_samples f_palette f_has f_before f_carried) H → va_D A (wdMd_dither q_this q_samples q_palette q_has q_before q_carried r_isGiven r_gives r_colours r_many r_group r_row r_channelOf r_spreads r_boxMany r_there r_groupMany r_means r_sums r_takers r_takenSums r_order r_roundSums c_samples c_palette c_has c_before c_carried n_samples n_palette n_has n_before n_carried f_thrown f_width f_height f_different f_groups f_rowSize f_ready f_size f_rounds f_samples f_palette f_has f_before f_carried) → va_S A s.heap H locs → lv_has ls 5 [(0, .ref q_this), (1, .int x1), (2, .int v2)] → G H locs 0 0 (F0 m 55 ls []) := ⟨_, rfl⟩
  obtain ⟨K84, eK84⟩ : ∃ K : Int32 → Int32 → Int32 → Int32 → (Nat → Int32) → (Nat → Int32) → (Nat → Int32) → Prop, K = fun v2 v3 v4 f_thrown f_has f_before f_carried => ∀ (H : Heap) (locs : List Loc) (ls : Array Slot), va_P (dC, dI) vwCl (wdMd_dither q_this q_samples q_palette q_has q_before q_carried r_isGiven r_gives r_colours r_many r_group r_row r_channelOf r_spreads r_boxMany r_there r_groupMany r_means r_sums r_takers r_takenSums r_order r_roundSums c_samples c_palette c_has c_before c_carried n_samples n_palette n_has n_before n_carried f_thrown f_width f_height f_different f_groups f_rowSize f_ready f_size f_rounds f_samples f_palette f_has f_before f_carried) H → va_D A (wdMd_dither q_this q_samples q_palette q_has q_before q_carried r_isGiven r_gives r_colours r_many r_group r_row r_channelOf r_spreads r_boxMany r_there r_groupMany r_means r_sums r_takers r_takenSums r_order r_roundSums c_samples c_palette c_has c_before c_carried n_samples n_palette n_has n_before n_carried f_thrown f_width f_height f_different f_groups f_rowSize f_ready f_size f_rounds f_samples f_palette f_has f_before f_carried) → va_S A s.heap H locs → lv_has ls 5 [(0, .ref q_this), (1, .int x1), (2, .int v2), (3, .int v3), (4, .int v4)] → G H locs 0 0 (F0 m 84 ls []) := ⟨_, rfl⟩
  obtain ⟨K181, eK181⟩ : ∃ K : Int32 → Int32 → Int32 → (Nat → Int32) → (Nat → Int32) → (Nat → Int32) → Prop, K = fun v2 v3 f_thrown f_has f_before f_carried => ∀ (H : Heap) (locs : List Loc) (ls : Array Slot), va_P (dC, dI) vwCl (wdMd_dither q_this q_samples q_palette q_has q_before q_carried r_isGiven r_gives r_colours r_many r_group r_row r_channelOf r_spreads r_boxMany r_there r_groupMany r_means r_sums r_takers r_takenSums r_order r_roundSums c_samples c_palette c_has c_before c_carried n_samples n_palette n_has n_before n_carried f_thrown f_width f_height f_different f_groups f_rowSize f_ready f_size f_rounds f_samples f_palette f_has f_before f_carried) H → va_D A (wdMd_dither q_this q_samples q_palette q_has q_before q_carried r_isGiven r_gives r_colours r_many r_group r_row r_channelOf r_spreads r_boxMany r_there r_groupMany r_means r_sums r_takers r_takenSums r_order r_roundSums c_samples c_palette c_has c_before c_carried n_samples n_palette n_has n_before n_carried f_thrown f_width f_height f_different f_groups f_rowSize f_ready f_size f_rounds f_samples f_palette f_has f_before f_carried) → va_S A s.heap H locs → lv_has ls 5 [(0, .ref q_this), (2, .int v2), (3, .int v3)] → G H locs 0 0 (F0 m 181 ls []) := ⟨_, rfl⟩
  have j220 : ∀ (v3 : Int32) (s0 : Int32) (s1 : Int32) (f_thrown : Int32) (f_has : Nat → Int32) (f_before : Nat → Int32) (f_carried : Nat → Int32), vcMd_dither_220 n_samples n_palette n_has n_before n_carried f_width f_height f_different f_groups f_rowSize f_ready f_size f_rounds f_samples f_palette x1 K25 K55 K84 K181 post v3 s0 s1 f_thrown f_has f_before f_carried → ∀ (H : Heap) (locs : List Loc) (ls : Array Slot), va_P (dC, dI) vwCl (wdMd_dither q_this q_samples q_palette q_has q_before q_carried r_isGiven r_gives r_colours r_many r_group r_row r_channelOf r_spreads r_boxMany r_there r_groupMany r_means r_sums r_takers r_takenSums r_order r_roundSums c_samples c_palette c_has c_before c_carried n_samples n_palette n_has n_before n_carried f_thrown f_width f_height f_different f_groups f_rowSize f_ready f_size f_rounds f_samples f_palette f_has f_before f_carried) H → va_D A (wdMd_dither q_this q_samples q_palette q_has q_before q_carried r_isGiven r_gives r_colours r_many r_group r_row r_channelOf r_spreads r_boxMany r_there r_groupMany r_means r_sums r_takers r_takenSums r_order r_roundSums c_samples c_palette c_has c_before c_carried n_samples n_palette n_has n_before n_carried f_thrown f_width f_height f_different f_groups f_rowSize f_ready f_size f_rounds f_samples f_palette f_has f_before f_carried) → va_S A s.heap H locs → lv_has ls 5 [(0, .ref q_this), (3, .int v3)] → G H locs 0 0 (F0 m 220 ls [.int s0, .int s1]) := by
    intro v3 s0 s1 f_thrown f_has f_before f_carried hv H locs ls hP hD hS hl
    rw [eG]
    unfold vcMd_dither_220 at hv
    refine lv_iadd hx hb dMd_dither_220 ?_
    refine lv_topi (fun v2_1 ev2_1 => ?_)
    have hv := hv v2_1 ev2_1
    refine lv_istore_n (lv' := [(2, .int v2_1), (0, .ref q_this), (3, .int v3)]) hx hb dMd_dither_221 rfl hl (by decide) rfl (fun ls hl => ?_)
    refine lv_iinc (v := v3 + 1) (lv' := [(3, .int (v3 + 1)), (2, .int v2_1), (0, .ref q_this)]) hx hb dMd_dither_222 hl (k := 2) rfl rfl (by decide) rfl (fun ls hl => ?_)
    refine lv_goto (tgt := 181) hx hb dMd_dither_225 (by decide) ?_
    rw [eK181, eG] at hv
    exact hv _ _ _ hP hD hS (lv_sub hl [2, 1, 0] rfl)
  rw [eG] at j220
  have j165 : ∀ (v2 : Int32) (v3 : Int32) (v4 : Int32) (f_thrown : Int32) (f_has : Nat → Int32) (f_before : Nat → Int32) (f_carried : Nat → Int32), vcMd_dither_165 n_samples n_palette n_has n_before n_carried f_width f_height f_different f_groups f_rowSize f_ready f_size f_rounds f_samples f_palette x1 K25 K55 K84 K181 post v2 v3 v4 f_thrown f_has f_before f_carried → ∀ (H : Heap) (locs : List Loc) (ls : Array Slot), va_P (dC, dI) vwCl (wdMd_dither q_this q_samples q_palette q_has q_before q_carried r_isGiven r_gives r_colours r_many r_group r_row r_channelOf r_spreads r_boxMany r_there r_groupMany r_means r_sums r_takers r_takenSums r_order r_roundSums c_samples c_palette c_has c_before c_carried n_samples n_palette n_has n_before n_carried f_thrown f_width f_height f_different f_groups f_rowSize f_ready f_size f_rounds f_samples f_palette f_has f_before f_carried) H → va_D A (wdMd_dither q_this q_samples q_palette q_has q_before q_carried r_isGiven r_gives r_colours r_many r_group r_row r_channelOf r_spreads r_boxMany r_there r_groupMany r_means r_sums r_takers r_takenSums r_order r_roundSums c_samples c_palette c_has c_before c_carried n_samples n_palette n_has n_before n_carried f_thrown f_width f_height f_different f_groups f_rowSize f_ready f_size f_rounds f_samples f_palette f_has f_before f_carried) → va_S A s.heap H locs → lv_has ls 5 [(0, .ref q_this), (1, .int x1), (2, .int v2), (3, .int v3), (4, .int v4)] → G H locs 0 0 (F0 m 165 ls []) := by
    intro v2 v3 v4 f_thrown f_has f_before f_carried hv H locs ls hP hD hS hl
    rw [eG]
    unfold vcMd_dither_165 at hv
    refine lv_iinc (v := v4 + 1) (lv' := [(4, .int (v4 + 1)), (0, .ref q_this), (1, .int x1), (2, .int v2), (3, .int v3)]) hx hb dMd_dither_165 hl (k := 4) rfl rfl (by decide) rfl (fun ls hl => ?_)
    refine lv_goto (tgt := 84) hx hb dMd_dither_168 (by decide) ?_
    rw [eK84, eG] at hv
    exact hv _ _ _ hP hD hS (lv_sub hl [1, 2, 3, 4, 0] rfl)
  rw [eG] at j165
  have j162 : ∀ (v2 : Int32) (v3 : Int32) (v4 : Int32) (s0 : Int32) (s1 : Int32) (s2 : Int32) (f_thrown : Int32) (f_has : Nat → Int32) (f_before : Nat → Int32) (f_carried : Nat → Int32), vcMd_dither_162 n_samples n_palette n_has n_before n_carried f_width f_height f_different f_groups f_rowSize f_ready f_size f_rounds f_samples f_palette x1 K25 K55 K84 K181 post v2 v3 v4 s0 s1 s2 f_thrown f_has f_before f_carried → ∀ (H : Heap) (locs : List Loc) (ls : Array Slot), va_P (dC, dI) vwCl (wdMd_dither q_this q_samples q_palette q_has q_before q_carried r_isGiven r_gives r_colours r_many r_group r_row r_channelOf r_spreads r_boxMany r_there r_groupMany r_means r_sums r_takers r_takenSums r_order r_roundSums c_samples c_palette c_has c_before c_carried n_samples n_palette n_has n_before n_carried f_thrown f_width f_height f_different f_groups f_rowSize f_ready f_size f_rounds f_samples f_palette f_has f_before f_carried) H → va_D A (wdMd_dither q_this q_samples q_palette q_has q_before q_carried r_isGiven r_gives r_colours r_many r_group r_row r_channelOf r_spreads r_boxMany r_there r_groupMany r_means r_sums r_takers r_takenSums r_order r_roundSums c_samples c_palette c_has c_before c_carried n_samples n_palette n_has n_before n_carried f_thrown f_width f_height f_different f_groups f_rowSize f_ready f_size f_rounds f_samples f_palette f_has f_before f_carried) → va_S A s.heap H locs → lv_has ls 5 [(0, .ref q_this), (1, .int x1), (2, .int v2), (3, .int v3), (4, .int v4)] → G H locs 0 0 (F0 m 162 ls [.int s0, .int s1, .int s2, .ref q_this]) := by
    intro v2 v3 v4 s0 s1 s2 f_thrown f_has f_before f_carried hv H locs ls hP hD hS hl
    rw [eG]
    unfold vcMd_dither_162 at hv
    have hFc := va_free (wc := (wdMd_missed q_this q_samples q_palette q_has q_before q_carried r_isGiven r_gives r_colours r_many r_group r_row r_channelOf r_spreads r_boxMany r_there r_groupMany r_means r_sums r_takers r_takenSums r_order r_roundSums c_samples c_palette c_has c_before c_carried n_samples n_palette n_has n_before n_carried f_thrown f_width f_height f_different f_groups f_rowSize f_ready f_size f_rounds f_samples f_palette f_has f_before f_carried)) hD hS hA [0, 1, 2, 3, 4, 5] rfl
    refine gx_v (wr := []) (va_runV (As := [.int s2, .int s1, .int s0]) (rest := []) ⟨hx, hb, hml, hown, hB⟩ (metMd_missed l dC dI q_this q_samples q_palette q_has q_before q_carried r_isGiven r_gives r_colours r_many r_group r_row r_channelOf r_spreads r_boxMany r_there r_groupMany r_means r_sums r_takers r_takenSums r_order r_roundSums c_samples c_palette c_has c_before c_carried n_samples n_palette n_has n_before n_carried H.size f_thrown f_width f_height f_different f_groups f_rowSize f_ready f_size f_rounds f_samples f_palette f_has f_before f_carried s2 s1 s0 hv) (cwV 3 hB (gx_gV bw791 bw792 bw42 bw53 bw793) rfl rfl rfl (by decide +kernel) ⟨(Nat.le_of_ble_eq_true rfl), (Nat.le_of_ble_eq_true rfl)⟩) (gx_preV (ci := 8) (hP.sub (ws' := (wdMd_missed q_this q_samples q_palette q_has q_before q_carried r_isGiven r_gives r_colours r_many r_group r_row r_channelOf r_spreads r_boxMany r_there r_groupMany r_means r_sums r_takers r_takenSums r_order r_roundSums c_samples c_palette c_has c_before c_carried n_samples n_palette n_has n_before n_carried f_thrown f_width f_height f_different f_groups f_rowSize f_ready f_size f_rounds f_samples f_palette f_has f_before f_carried)) [0, 1, 2, 3, 4, 5] rfl) (hK.sub (tys' := [(c_samples, .int), (c_palette, .int), (c_has, .int), (c_before, .int), (c_carried, .int)]) [0, 1, 2, 3, 4] rfl) (hD.sub (ws' := (wdMd_missed q_this q_samples q_palette q_has q_before q_carried r_isGiven r_gives r_colours r_many r_group r_row r_channelOf r_spreads r_boxMany r_there r_groupMany r_means r_sums r_takers r_takenSums r_order r_roundSums c_samples c_palette c_has c_before c_carried n_samples n_palette n_has n_before n_carried f_thrown f_width f_height f_different f_groups f_rowSize f_ready f_size f_rounds f_samples f_palette f_has f_before f_carried)) [0, 1, 2, 3, 4, 5] (by decide) rfl) hZ hS hFc rfl rfl) rfl rfl hl.1 rfl (lv_room (Nat.le_of_ble_eq_true rfl)) dMd_dither_162 ⟨(Nat.le_of_ble_eq_true rfl), (Nat.le_of_ble_eq_true rfl)⟩) hP hD hS hFc [0, 1, 2, 3, 4, 5] [] rfl rfl (by decide) (by decide) (fun u_5 H locs hv hP hD hS => ?_)
    obtain ⟨f_has_2, f_before_3, f_carried_4⟩ := u_5
    have hP : va_P (dC, dI) vwCl (wdMd_dither q_this q_samples q_palette q_has q_before q_carried r_isGiven r_gives r_colours r_many r_group r_row r_channelOf r_spreads r_boxMany r_there r_groupMany r_means r_sums r_takers r_takenSums r_order r_roundSums c_samples c_palette c_has c_before c_carried n_samples n_palette n_has n_before n_carried f_thrown f_width f_height f_different f_groups f_rowSize f_ready f_size f_rounds f_samples f_palette f_has_2 f_before_3 f_carried_4) H := hP.sub [0, 1, 2, 3, 4, 5] rfl
    have hD : va_D A (wdMd_dither q_this q_samples q_palette q_has q_before q_carried r_isGiven r_gives r_colours r_many r_group r_row r_channelOf r_spreads r_boxMany r_there r_groupMany r_means r_sums r_takers r_takenSums r_order r_roundSums c_samples c_palette c_has c_before c_carried n_samples n_palette n_has n_before n_carried f_thrown f_width f_height f_different f_groups f_rowSize f_ready f_size f_rounds f_samples f_palette f_has_2 f_before_3 f_carried_4) := hD.sub [0, 1, 2, 3, 4, 5] (by decide) rfl
    exact j165 v2 v3 v4 f_thrown f_has_2 f_before_3 f_carried_4 hv _ _ _ hP hD hS (lv_sub hl [0, 1, 2, 3, 4] rfl)
  rw [eG] at j162
  have j152 : ∀ (v2 : Int32) (v3 : Int32) (v4 : Int32) (s0 : Int32) (f_thrown : Int32) (f_has : Nat → Int32) (f_before : Nat → Int32) (f_carried : Nat → Int32), vcMd_dither_152 n_samples n_palette n_has n_before n_carried f_width f_height f_different f_groups f_rowSize f_ready f_size f_rounds f_samples f_palette x1 K25 K55 K84 K181 post v2 v3 v4 s0 f_thrown f_has f_before f_carried → ∀ (H : Heap) (locs : List Loc) (ls : Array Slot), va_P (dC, dI) vwCl (wdMd_dither q_this q_samples q_palette q_has q_before q_carried r_isGiven r_gives r_colours r_many r_group r_row r_channelOf r_spreads r_boxMany r_there r_groupMany r_means r_sums r_takers r_takenSums r_order r_roundSums c_samples c_palette c_has c_before c_carried n_samples n_palette n_has n_before n_carried f_thrown f_width f_height f_different f_groups f_rowSize f_ready f_size f_rounds f_samples f_palette f_has f_before f_carried) H → va_D A (wdMd_dither q_this q_samples q_palette q_has q_before q_carried r_isGiven r_gives r_colours r_many r_group r_row r_channelOf r_spreads r_boxMany r_there r_groupMany r_means r_sums r_takers r_takenSums r_order r_roundSums c_samples c_palette c_has c_before c_carried n_samples n_palette n_has n_before n_carried f_thrown f_width f_height f_different f_groups f_rowSize f_ready f_size f_rounds f_samples f_palette f_has f_before f_carried) → va_S A s.heap H locs → lv_has ls 5 [(0, .ref q_this), (1, .int x1), (2, .int v2), (3, .int v3), (4, .int v4)] → G H locs 0 0 (F0 m 152 ls [.int s0, .ref q_this]) := by
    intro v2 v3 v4 s0 f_thrown f_has f_before f_carried hv H locs ls hP hD hS hl
    rw [eG]
    unfold vcMd_dither_152 at hv
    refine lv_iload_n hx hb dMd_dither_152 rfl (lv_at hl 2 rfl) ?_
    refine lv_iload_n hx hb dMd_dither_153 rfl (lv_at hl 3 rfl) ?_
    refine lv_if_eq (tgt := 161) hx hb dMd_dither_154 (by decide) (fun c_6 => ?_) (fun c_6 => ?_)
    · have hv := hv.1 c_6
      refine lv_iconst (v := 1) hx hb dMd_dither_161 (by decide) ?_
      exact j162 v2 v3 v4 1 v2 s0 f_thrown f_has f_before f_carried hv _ _ _ hP hD hS (lv_sub hl [0, 1, 2, 3, 4] rfl)
    · have hv := hv.2 c_6
      refine lv_iconst (v := (-1)) hx hb dMd_dither_157 (by decide) ?_
      refine lv_goto (tgt := 162) hx hb dMd_dither_158 (by decide) ?_
      exact j162 v2 v3 v4 (-1) v2 s0 f_thrown f_has f_before f_carried hv _ _ _ hP hD hS (lv_sub hl [0, 1, 2, 3, 4] rfl)
  rw [eG] at j152
  have j80 : ∀ (v2 : Int32) (s0 : Int32) (f_thrown : Int32) (f_has : Nat → Int32) (f_before : Nat → Int32) (f_carried : Nat → Int32), vcMd_dither_80 n_samples n_palette n_has n_before n_carried f_width f_height f_different f_groups f_rowSize f_ready f_size f_rounds f_samples f_palette x1 K25 K55 K84 K181 post v2 s0 f_thrown f_has f_before f_carried → ∀ (H : Heap) (locs : List Loc) (ls : Array Slot), va_P (dC, dI) vwCl (wdMd_dither q_this q_samples q_palette q_has q_before q_carried r_isGiven r_gives r_colours r_many r_group r_row r_channelOf r_spreads r_boxMany r_there r_groupMany r_means r_sums r_takers r_takenSums r_order r_roundSums c_samples c_palette c_has c_before c_carried n_samples n_palette n_has n_before n_carried f_thrown f_width f_height f_different f_groups f_rowSize f_ready f_size f_rounds f_samples f_palette f_has f_before f_carried) H → va_D A (wdMd_dither q_this q_samples q_palette q_has q_before q_carried r_isGiven r_gives r_colours r_many r_group r_row r_channelOf r_spreads r_boxMany r_there r_groupMany r_means r_sums r_takers r_takenSums r_order r_roundSums c_samples c_palette c_has c_before c_carried n_samples n_palette n_has n_before n_carried f_thrown f_width f_height f_different f_groups f_rowSize f_ready f_size f_rounds f_samples f_palette f_has f_before f_carried) → va_S A s.heap H locs → lv_has ls 5 [(0, .ref q_this), (1, .int x1), (2, .int v2)] → G H locs 0 0 (F0 m 80 ls [.int s0]) := by
    intro v2 s0 f_thrown f_has f_before f_carried hv H locs ls hP hD hS hl
    rw [eG]
    unfold vcMd_dither_80 at hv
    refine lv_istore_n (lv' := [(3, .int s0), (0, .ref q_this), (1, .int x1), (2, .int v2)]) hx hb dMd_dither_80 rfl hl (by decide) rfl (fun ls hl => ?_)
    refine lv_iconst (v := 0) hx hb dMd_dither_81 (by decide) ?_
    refine lv_istore (lv' := [(4, .int 0), (3, .int s0), (0, .ref q_this), (1, .int x1), (2, .int v2)]) hx hb dMd_dither_82 hl (by decide) rfl (fun ls hl => ?_)
    rw [eK84, eG] at hv
    exact hv _ _ _ hP hD hS (lv_sub hl [2, 3, 4, 1, 0] rfl)
  rw [eG] at j80
  have j79 : ∀ (v2 : Int32) (f_thrown : Int32) (f_has : Nat → Int32) (f_before : Nat → Int32) (f_carried : Nat → Int32), vcMd_dither_79 n_samples n_palette n_has n_before n_carried f_width f_height f_different f_groups f_rowSize f_ready f_size f_rounds f_samples f_palette x1 K25 K55 K84 K181 post v2 f_thrown f_has f_before f_carried → ∀ (H : Heap) (locs : List Loc) (ls : Array Slot), va_P (dC, dI) vwCl (wdMd_dither q_this q_samples q_palette q_has q_before q_carried r_isGiven r_gives r_colours r_many r_group r_row r_channelOf r_spreads r_boxMany r_there r_groupMany r_means r_sums r_takers r_takenSums r_order r_roundSums c_samples c_palette c_has c_before c_carried n_samples n_palette n_has n_before n_carried f_thrown f_width f_height f_different f_groups f_rowSize f_ready f_size f_rounds f_samples f_palette f_has f_before f_carried) H → va_D A (wdMd_dither q_this q_samples q_palette q_has q_before q_carried r_isGiven r_gives r_colours r_many r_group r_row r_channelOf r_spreads r_boxMany r_there r_groupMany r_means r_sums r_takers r_takenSums r_order r_roundSums c_samples c_palette c_has c_before c_carried n_samples n_palette n_has n_before n_carried f_thrown f_width f_height f_different f_groups f_rowSize f_ready f_size f_rounds f_samples f_palette f_has f_before f_carried) → va_S A s.heap H locs → lv_has ls 5 [(0, .ref q_this), (1, .int x1), (2, .int v2)] → G H locs 0 0 (F0 m 79 ls []) := by
    intro v2 f_thrown f_has f_before f_carried hv H locs ls hP hD hS hl
    rw [eG]
    unfold vcMd_dither_79 at hv
    refine lv_iconst (v := 0) hx hb dMd_dither_79 (by decide) ?_
    exact j80 v2 0 f_thrown f_has f_before f_carried hv _ _ _ hP hD hS (lv_sub hl [0, 1, 2] rfl)
  rw [eG] at j79
  have j15 : ∀ (s0 : Int32), vcMd_dither_15 n_samples n_palette n_has n_before n_carried f_width f_height f_different f_groups f_rowSize f_ready f_size f_rounds f_samples f_palette x1 K25 K55 K84 K181 post s0 f_thrown f_has f_before f_carried → ∀ (H : Heap) (locs : List Loc) (ls : Array Slot), va_P (dC, dI) vwCl (wdMd_dither q_this q_samples q_palette q_has q_before q_carried r_isGiven r_gives r_colours r_many r_group r_row r_channelOf r_spreads r_boxMany r_there r_groupMany r_means r_sums r_takers r_takenSums r_order r_roundSums c_samples c_palette c_has c_before c_carried n_samples n_palette n_has n_before n_carried f_thrown f_width f_height f_different f_groups f_rowSize f_ready f_size f_rounds f_samples f_palette f_has f_before f_carried) H → va_D A (wdMd_dither q_this q_samples q_palette q_has q_before q_carried r_isGiven r_gives r_colours r_many r_group r_row r_channelOf r_spreads r_boxMany r_there r_groupMany r_means r_sums r_takers r_takenSums r_order r_roundSums c_samples c_palette c_has c_before c_carried n_samples n_palette n_has n_before n_carried f_thrown f_width f_height f_different f_groups f_rowSize f_ready f_size f_rounds f_samples f_palette f_has f_before f_carried) → va_S A s.heap H locs → lv_has ls 5 [(0, .ref q_this), (1, .int x1)] → G H locs 0 0 (F0 m 15 ls [.int s0, .ref q_this]) := by
    intro s0 hv H locs ls hP hD hS hl
    rw [eG]
    unfold vcMd_dither_15 at hv
    have hFc := va_free (wc := (wdMd_tells q_this q_samples r_isGiven r_gives r_colours r_many r_group r_row r_channelOf r_spreads r_boxMany r_there r_groupMany r_means r_sums q_palette q_has r_takers r_takenSums r_order q_before r_roundSums q_carried f_thrown f_width f_height f_different f_groups f_rowSize f_ready f_size f_rounds)) hD hS hA [0] rfl
    refine gx_i (wr := [(q_samples, .inl (c_samples, n_samples, .inl f_samples)), (q_palette, .inl (c_palette, n_palette, .inl f_palette)), (q_has, .inl (c_has, n_has, .inl f_has)), (q_before, .inl (c_before, n_before, .inl f_before)), (q_carried, .inl (c_carried, n_carried, .inl f_carried))]) (va_runV (As := [.int s0]) (rest := []) ⟨hx, hb, hml, hown, hB⟩ (metMd_tells l dC dI q_this q_samples r_isGiven r_gives r_colours r_many r_group r_row r_channelOf r_spreads r_boxMany r_there r_groupMany r_means r_sums q_palette q_has r_takers r_takenSums r_order q_before r_roundSums q_carried H.size f_thrown f_width f_height f_different f_groups f_rowSize f_ready f_size f_rounds s0 hv) (cwV 1 hB (gx_gV bw772 bw773 bw41 bw53 bw774) rfl rfl rfl (by decide +kernel) ⟨(Nat.le_of_ble_eq_true rfl), (Nat.le_of_ble_eq_true rfl)⟩) (gx_preV (ci := 8) (hP.sub (ws' := (wdMd_tells q_this q_samples r_isGiven r_gives r_colours r_many r_group r_row r_channelOf r_spreads r_boxMany r_there r_groupMany r_means r_sums q_palette q_has r_takers r_takenSums r_order q_before r_roundSums q_carried f_thrown f_width f_height f_different f_groups f_rowSize f_ready f_size f_rounds)) [0] rfl) (hK.sub (tys' := []) [] rfl) (hD.sub (ws' := (wdMd_tells q_this q_samples r_isGiven r_gives r_colours r_many r_group r_row r_channelOf r_spreads r_boxMany r_there r_groupMany r_means r_sums q_palette q_has r_takers r_takenSums r_order q_before r_roundSums q_carried f_thrown f_width f_height f_different f_groups f_rowSize f_ready f_size f_rounds)) [0] (by decide) rfl) hZ hS hFc rfl rfl) rfl rfl hl.1 rfl (lv_room (Nat.le_of_ble_eq_true rfl)) dMd_dither_15 ⟨(Nat.le_of_ble_eq_true rfl), (Nat.le_of_ble_eq_true rfl)⟩) hP hD hS hFc [0] [1, 2, 3, 4, 5] rfl rfl (by decide) (by decide) (fun r_8 u_9 H locs hv hP hD hS => ?_)
    obtain ⟨f_thrown_7, rfl⟩ : ∃ z, z = u_9 := ⟨_, rfl⟩
    have hP : va_P (dC, dI) vwCl (wdMd_dither q_this q_samples q_palette q_has q_before q_carried r_isGiven r_gives r_colours r_many r_group r_row r_channelOf r_spreads r_boxMany r_there r_groupMany r_means r_sums r_takers r_takenSums r_order r_roundSums c_samples c_palette c_has c_before c_carried n_samples n_palette n_has n_before n_carried f_thrown_7 f_width f_height f_different f_groups f_rowSize f_ready f_size f_rounds f_samples f_palette f_has f_before f_carried) H := hP.sub [5, 0, 1, 2, 3, 4] rfl
    have hD : va_D A (wdMd_dither q_this q_samples q_palette q_has q_before q_carried r_isGiven r_gives r_colours r_many r_group r_row r_channelOf r_spreads r_boxMany r_there r_groupMany r_means r_sums r_takers r_takenSums r_order r_roundSums c_samples c_palette c_has c_before c_carried n_samples n_palette n_has n_before n_carried f_thrown_7 f_width f_height f_different f_groups f_rowSize f_ready f_size f_rounds f_samples f_palette f_has f_before f_carried) := hD.sub [5, 0, 1, 2, 3, 4] (by decide) rfl
    refine lv_if_ne (tgt := 23) hx hb dMd_dither_18 (by decide) (fun c_10 => ?_) (fun c_10 => ?_)
    · have hv := hv.1 c_10
      refine lv_iconst (v := 0) hx hb dMd_dither_23 (by decide) ?_
      refine lv_istore_n (lv' := [(2, .int 0), (0, .ref q_this), (1, .int x1)]) hx hb dMd_dither_24 rfl hl (by decide) rfl (fun ls hl => ?_)
      rw [eK25, eG] at hv
      exact hv _ _ _ hP hD hS (lv_sub hl [1, 2, 0] rfl)
    · have hv := hv.2 c_10
      refine lv_iconst (v := 0) hx hb dMd_dither_21 (by decide) ?_
      exact W.iret (v := 0) hx hb hr (fun t ht hW => ⟨⟨_, (f_thrown_7, f_has, f_before, f_carried), rfl, hv, by rw [ht]; exact hP, hD⟩, hS.F ht⟩) hS.2.2 dMd_dither_22
  rw [eG] at j15
  have j14 : vcMd_dither_14 n_samples n_palette n_has n_before n_carried f_width f_height f_different f_groups f_rowSize f_ready f_size f_rounds f_samples f_palette x1 K25 K55 K84 K181 post f_thrown f_has f_before f_carried → ∀ (H : Heap) (locs : List Loc) (ls : Array Slot), va_P (dC, dI) vwCl (wdMd_dither q_this q_samples q_palette q_has q_before q_carried r_isGiven r_gives r_colours r_many r_group r_row r_channelOf r_spreads r_boxMany r_there r_groupMany r_means r_sums r_takers r_takenSums r_order r_roundSums c_samples c_palette c_has c_before c_carried n_samples n_palette n_has n_before n_carried f_thrown f_width f_height f_different f_groups f_rowSize f_ready f_size f_rounds f_samples f_palette f_has f_before f_carried) H → va_D A (wdMd_dither q_this q_samples q_palette q_has q_before q_carried r_isGiven r_gives r_colours r_many r_group r_row r_channelOf r_spreads r_boxMany r_there r_groupMany r_means r_sums r_takers r_takenSums r_order r_roundSums c_samples c_palette c_has c_before c_carried n_samples n_palette n_has n_before n_carried f_thrown f_width f_height f_different f_groups f_rowSize f_ready f_size f_rounds f_samples f_palette f_has f_before f_carried) → va_S A s.heap H locs → lv_has ls 5 [(0, .ref q_this), (1, .int x1)] → G H locs 0 0 (F0 m 14 ls [.ref q_this]) := by
    intro  hv H locs ls hP hD hS hl
    rw [eG]
    unfold vcMd_dither_14 at hv
    refine lv_iconst (v := 0) hx hb dMd_dither_14 (by decide) ?_
    exact j15 0 hv _ _ _ hP hD hS (lv_sub hl [0, 1] rfl)
  rw [eG] at j14
  unfold wpMd_dither at hw
  have hv := hw K25 K55 K84 K181
  have hv := hv (by
    intro v2 f_thrown f_has f_before f_carried hv
    rw [eK25]
    intro H locs ls hP hD hS hl
    rw [eG]
    unfold vcMd_dither_25 at hv
    refine lv_iload_n hx hb dMd_dither_25 rfl (lv_at hl 2 rfl) ?_
    refine lv_iconst (v := 4) hx hb dMd_dither_26 (by decide) ?_
    refine lv_aload_n hx hb dMd_dither_27 rfl (lv_at hl 0 rfl) ?_
    refine va_get (D := (dC, dI)) (ci := 8) (v := .int f_width) (C := RMd) (T := TMd) (N := 31) hx hb hB hiMd hown hK hP 0 rfl rfl 1 (by decide) hL78 (fun _ h9 => h9) rfl dMd_dither_28 ?_
    refine lv_imul hx hb dMd_dither_31 ?_
    refine lv_aload_n hx hb dMd_dither_32 rfl (lv_at hl 0 rfl) ?_
    refine va_get (D := (dC, dI)) (ci := 8) (v := .int f_height) (C := RMd) (T := TMd) (N := 31) hx hb hB hiMd hown hK hP 0 rfl rfl 2 (by decide) hL82 (fun _ h9 => h9) rfl dMd_dither_33 ?_
    refine lv_imul hx hb dMd_dither_36 ?_
    refine lv_icmp_ge (tgt := 53) hx hb dMd_dither_37 (by decide) (fun c_11 => ?_) (fun c_11 => ?_)
    · have hv := hv.1 c_11
      refine lv_iconst (v := 0) hx hb dMd_dither_53 (by decide) ?_
      refine lv_istore_n (lv' := [(2, .int 0), (0, .ref q_this), (1, .int x1)]) hx hb dMd_dither_54 rfl hl (by decide) rfl (fun ls hl => ?_)
      rw [eK55, eG] at hv
      exact hv _ _ _ hP hD hS (lv_sub hl [1, 2, 0] rfl)
    · have hv := hv.2 c_11
      refine lv_aload_n hx hb dMd_dither_40 rfl (lv_at hl 0 rfl) ?_
      refine va_get (D := (dC, dI)) (ci := 8) (v := .ref q_carried) (C := RMd) (T := TMd) (N := 31) hx hb hB hiMd hown hK hP 0 rfl rfl 30 (by decide) hL75 (fun _ h9 => h9) rfl dMd_dither_41 ?_
      refine lv_iload_n hx hb dMd_dither_44 rfl (lv_at hl 2 rfl) ?_
      refine lv_iconst (v := 0) hx hb dMd_dither_45 (by decide) ?_
      obtain ⟨h_12, hv⟩ := hv
      refine va_iast hx hb hK hP hD hS 5 4 rfl rfl h_12 dMd_dither_46 (fun H locs hP hD hS => ?_)
      have hP : va_P (dC, dI) vwCl (wdMd_dither q_this q_samples q_palette q_has q_before q_carried r_isGiven r_gives r_colours r_many r_group r_row r_channelOf r_spreads r_boxMany r_there r_groupMany r_means r_sums r_takers r_takenSums r_order r_roundSums c_samples c_palette c_has c_before c_carried n_samples n_palette n_has n_before n_carried f_thrown f_width f_height f_different f_groups f_rowSize f_ready f_size f_rounds f_samples f_palette f_has f_before (upd f_carried v2.toNatClampNeg 0)) H := hP
      have hD : va_D A (wdMd_dither q_this q_samples q_palette q_has q_before q_carried r_isGiven r_gives r_colours r_many r_group r_row r_channelOf r_spreads r_boxMany r_there r_groupMany r_means r_sums r_takers r_takenSums r_order r_roundSums c_samples c_palette c_has c_before c_carried n_samples n_palette n_has n_before n_carried f_thrown f_width f_height f_different f_groups f_rowSize f_ready f_size f_rounds f_samples f_palette f_has f_before (upd f_carried v2.toNatClampNeg 0)) := hD
      refine lv_iinc (v := v2 + 1) (lv' := [(2, .int (v2 + 1)), (0, .ref q_this), (1, .int x1)]) hx hb dMd_dither_47 hl (k := 2) rfl rfl (by decide) rfl (fun ls hl => ?_)
      refine lv_goto (tgt := 25) hx hb dMd_dither_50 (by decide) ?_
      rw [eK25, eG] at hv
      exact hv _ _ _ hP hD hS (lv_sub hl [1, 2, 0] rfl))
  have hv := hv (by
    intro v2 f_thrown f_has f_before f_carried hv
    rw [eK55]
    intro H locs ls hP hD hS hl
    rw [eG]
    unfold vcMd_dither_55 at hv
    refine lv_iload_n hx hb dMd_dither_55 rfl (lv_at hl 2 rfl) ?_
    refine lv_aload_n hx hb dMd_dither_56 rfl (lv_at hl 0 rfl) ?_
    refine va_get (D := (dC, dI)) (ci := 8) (v := .int f_height) (C := RMd) (T := TMd) (N := 31) hx hb hB hiMd hown hK hP 0 rfl rfl 2 (by decide) hL82 (fun _ h9 => h9) rfl dMd_dither_57 ?_
    refine lv_icmp_ge (tgt := 177) hx hb dMd_dither_60 (by decide) (fun c_14 => ?_) (fun c_14 => ?_)
    · have hv := hv.1 c_14
      refine lv_iconst (v := 0) hx hb dMd_dither_177 (by decide) ?_
      refine lv_istore_n (lv' := [(2, .int 0), (0, .ref q_this), (1, .int x1)]) hx hb dMd_dither_178 rfl hl (by decide) rfl (fun ls hl => ?_)
      refine lv_iconst (v := 0) hx hb dMd_dither_179 (by decide) ?_
      refine lv_istore_n (lv' := [(3, .int 0), (2, .int 0), (0, .ref q_this), (1, .int x1)]) hx hb dMd_dither_180 rfl hl (by decide) rfl (fun ls hl => ?_)
      rw [eK181, eG] at hv
      exact hv _ _ _ hP hD hS (lv_sub hl [2, 1, 0] rfl)
    · have hv := hv.2 c_14
      refine lv_iload_n hx hb dMd_dither_63 rfl (lv_at hl 1 rfl) ?_
      refine lv_iconst (v := 2) hx hb dMd_dither_64 (by decide) ?_
      refine lv_icmp_ne (tgt := 79) hx hb dMd_dither_65 (by decide) (fun c_15 => ?_) (fun c_15 => ?_)
      · have hv := hv.1 c_15
        exact j79 v2 f_thrown f_has f_before f_carried hv _ _ _ hP hD hS (lv_sub hl [0, 1, 2] rfl)
      · have hv := hv.2 c_15
        refine lv_iload_n hx hb dMd_dither_68 rfl (lv_at hl 2 rfl) ?_
        refine lv_iconst (v := 2) hx hb dMd_dither_69 (by decide) ?_
        obtain ⟨h_16, hv⟩ := hv
        refine lv_irem hx hb dMd_dither_70 h_16 ?_
        refine lv_iconst (v := 1) hx hb dMd_dither_71 (by decide) ?_
        refine lv_icmp_ne (tgt := 79) hx hb dMd_dither_72 (by decide) (fun c_17 => ?_) (fun c_17 => ?_)
        · have hv := hv.1 c_17
          exact j79 v2 f_thrown f_has f_before f_carried hv _ _ _ hP hD hS (lv_sub hl [0, 1, 2] rfl)
        · have hv := hv.2 c_17
          refine lv_iconst (v := 1) hx hb dMd_dither_75 (by decide) ?_
          refine lv_goto (tgt := 80) hx hb dMd_dither_76 (by decide) ?_
          exact j80 v2 1 f_thrown f_has f_before f_carried hv _ _ _ hP hD hS (lv_sub hl [0, 1, 2] rfl))
  have hv := hv (by
    intro v2 v3 v4 f_thrown f_has f_before f_carried hv
    rw [eK84]
    intro H locs ls hP hD hS hl
    rw [eG]
    unfold vcMd_dither_84 at hv
    refine lv_iload hx hb dMd_dither_84 (lv_at hl 4 rfl) ?_
    refine lv_aload_n hx hb dMd_dither_86 rfl (lv_at hl 0 rfl) ?_
    refine va_get (D := (dC, dI)) (ci := 8) (v := .int f_width) (C := RMd) (T := TMd) (N := 31) hx hb hB hiMd hown hK hP 0 rfl rfl 1 (by decide) hL78 (fun _ h9 => h9) rfl dMd_dither_87 ?_
    refine lv_icmp_ge (tgt := 171) hx hb dMd_dither_90 (by decide) (fun c_18 => ?_) (fun c_18 => ?_)
    · have hv := hv.1 c_18
      refine lv_iinc (v := v2 + 1) (lv' := [(2, .int (v2 + 1)), (0, .ref q_this), (1, .int x1), (3, .int v3), (4, .int v4)]) hx hb dMd_dither_171 hl (k := 2) rfl rfl (by decide) rfl (fun ls hl => ?_)
      refine lv_goto (tgt := 55) hx hb dMd_dither_174 (by decide) ?_
      rw [eK55, eG] at hv
      exact hv _ _ _ hP hD hS (lv_sub hl [1, 2, 0] rfl)
    · have hv := hv.2 c_18
      refine lv_iload_n hx hb dMd_dither_93 rfl (lv_at hl 1 rfl) ?_
      refine lv_if_ne (tgt := 133) hx hb dMd_dither_94 (by decide) (fun c_19 => ?_) (fun c_19 => ?_)
      · have hv := hv.1 c_19
        refine lv_aload_n hx hb dMd_dither_133 rfl (lv_at hl 0 rfl) ?_
        refine lv_iload_n hx hb dMd_dither_134 rfl (lv_at hl 3 rfl) ?_
        refine lv_if_eq (tgt := 150) hx hb dMd_dither_135 (by decide) (fun c_20 => ?_) (fun c_20 => ?_)
        · have hv := hv.1 c_20
          refine lv_iload hx hb dMd_dither_150 (lv_at hl 4 rfl) ?_
          exact j152 v2 v3 v4 v4 f_thrown f_has f_before f_carried hv _ _ _ hP hD hS (lv_sub hl [0, 1, 2, 3, 4] rfl)
        · have hv := hv.2 c_20
          refine lv_aload_n hx hb dMd_dither_138 rfl (lv_at hl 0 rfl) ?_
          refine va_get (D := (dC, dI)) (ci := 8) (v := .int f_width) (C := RMd) (T := TMd) (N := 31) hx hb hB hiMd hown hK hP 0 rfl rfl 1 (by decide) hL78 (fun _ h9 => h9) rfl dMd_dither_139 ?_
          refine lv_iconst (v := 1) hx hb dMd_dither_142 (by decide) ?_
          refine lv_isub hx hb dMd_dither_143 ?_
          refine lv_iload hx hb dMd_dither_144 (lv_at hl 4 rfl) ?_
          refine lv_isub hx hb dMd_dither_146 ?_
          refine lv_goto (tgt := 152) hx hb dMd_dither_147 (by decide) ?_
          exact j152 v2 v3 v4 ((f_width - 1) - v4) f_thrown f_has f_before f_carried hv _ _ _ hP hD hS (lv_sub hl [0, 1, 2, 3, 4] rfl)
      · have hv := hv.2 c_19
        refine lv_aload_n hx hb dMd_dither_97 rfl (lv_at hl 0 rfl) ?_
        refine va_get (D := (dC, dI)) (ci := 8) (v := .ref q_has) (C := RMd) (T := TMd) (N := 31) hx hb hB hiMd hown hK hP 0 rfl rfl 23 (by decide) hL57 (fun _ h9 => h9) rfl dMd_dither_98 ?_
        refine lv_aload_n hx hb dMd_dither_101 rfl (lv_at hl 0 rfl) ?_
        refine va_get (D := (dC, dI)) (ci := 8) (v := .int f_width) (C := RMd) (T := TMd) (N := 31) hx hb hB hiMd hown hK hP 0 rfl rfl 1 (by decide) hL78 (fun _ h9 => h9) rfl dMd_dither_102 ?_
        refine lv_iload_n hx hb dMd_dither_105 rfl (lv_at hl 2 rfl) ?_
        refine lv_imul hx hb dMd_dither_106 ?_
        refine lv_iload hx hb dMd_dither_107 (lv_at hl 4 rfl) ?_
        refine lv_iadd hx hb dMd_dither_109 ?_
        refine lv_aload_n hx hb dMd_dither_110 rfl (lv_at hl 0 rfl) ?_
        refine lv_aload_n hx hb dMd_dither_111 rfl (lv_at hl 0 rfl) ?_
        refine va_get (D := (dC, dI)) (ci := 8) (v := .ref q_samples) (C := RMd) (T := TMd) (N := 31) hx hb hB hiMd hown hK hP 0 rfl rfl 3 (by decide) hL7 (fun _ h9 => h9) rfl dMd_dither_112 ?_
        refine lv_iconst (v := 4) hx hb dMd_dither_115 (by decide) ?_
        refine lv_aload_n hx hb dMd_dither_116 rfl (lv_at hl 0 rfl) ?_
        refine va_get (D := (dC, dI)) (ci := 8) (v := .int f_width) (C := RMd) (T := TMd) (N := 31) hx hb hB hiMd hown hK hP 0 rfl rfl 1 (by decide) hL78 (fun _ h9 => h9) rfl dMd_dither_117 ?_
        refine lv_iload_n hx hb dMd_dither_120 rfl (lv_at hl 2 rfl) ?_
        refine lv_imul hx hb dMd_dither_121 ?_
        refine lv_iload hx hb dMd_dither_122 (lv_at hl 4 rfl) ?_
        refine lv_iadd hx hb dMd_dither_124 ?_
        refine lv_imul hx hb dMd_dither_125 ?_
        have hFc := va_free (wc := (wdMd_nearestTo q_this q_palette q_samples q_samples r_isGiven r_gives r_colours r_many r_group r_row r_channelOf r_spreads r_boxMany r_there r_groupMany r_means r_sums q_has r_takers r_takenSums r_order q_before r_roundSums q_carried c_palette c_samples n_palette n_samples f_thrown f_width f_height f_different f_groups f_rowSize f_ready f_size f_rounds f_palette f_samples)) hD hS hA [0, 2, 1] rfl
        refine gx_i (wr := [(q_has, .inl (c_has, n_has, .inl f_has)), (q_before, .inl (c_before, n_before, .inl f_before)), (q_carried, .inl (c_carried, n_carried, .inl f_carried))]) (va_runV (As := [.ref q_samples, .int (4 * ((f_width * v2) + v4))]) (rest := [.int ((f_width * v2) + v4), .ref q_has]) ⟨hx, hb, hml, hown, hB⟩ (metMd_nearestTo l dC dI q_this q_palette q_samples q_samples r_isGiven r_gives r_colours r_many r_group r_row r_channelOf r_spreads r_boxMany r_there r_groupMany r_means r_sums q_has r_takers r_takenSums r_order q_before r_roundSums q_carried c_palette c_samples n_palette n_samples H.size f_thrown f_width f_height f_different f_groups f_rowSize f_ready f_size f_rounds f_palette f_samples (4 * ((f_width * v2) + v4)) hv) (cwV 2 hB (gx_gV bw759 bw760 bw38 bw53 bw761) rfl rfl rfl (by decide +kernel) ⟨(Nat.le_of_ble_eq_true rfl), (Nat.le_of_ble_eq_true rfl)⟩) (gx_preV (ci := 8) (hP.sub (ws' := (wdMd_nearestTo q_this q_palette q_samples q_samples r_isGiven r_gives r_colours r_many r_group r_row r_channelOf r_spreads r_boxMany r_there r_groupMany r_means r_sums q_has r_takers r_takenSums r_order q_before r_roundSums q_carried c_palette c_samples n_palette n_samples f_thrown f_width f_height f_different f_groups f_rowSize f_ready f_size f_rounds f_palette f_samples)) [0, 2, 1] rfl) (hK.sub (tys' := [(c_palette, .int), (c_samples, .int)]) [1, 0] rfl) (hD.sub (ws' := (wdMd_nearestTo q_this q_palette q_samples q_samples r_isGiven r_gives r_colours r_many r_group r_row r_channelOf r_spreads r_boxMany r_there r_groupMany r_means r_sums q_has r_takers r_takenSums r_order q_before r_roundSums q_carried c_palette c_samples n_palette n_samples f_thrown f_width f_height f_different f_groups f_rowSize f_ready f_size f_rounds f_palette f_samples)) [0, 2, 1] (by decide) rfl) hZ hS hFc rfl rfl) rfl rfl hl.1 rfl (lv_room (Nat.le_of_ble_eq_true rfl)) dMd_dither_126 ⟨(Nat.le_of_ble_eq_true rfl), (Nat.le_of_ble_eq_true rfl)⟩) hP hD hS hFc [0, 2, 1] [3, 4, 5] rfl rfl (by decide) (by decide) (fun r_21 u_22 H locs hv hP hD hS => ?_)
        have hP : va_P (dC, dI) vwCl (wdMd_dither q_this q_samples q_palette q_has q_before q_carried r_isGiven r_gives r_colours r_many r_group r_row r_channelOf r_spreads r_boxMany r_there r_groupMany r_means r_sums r_takers r_takenSums r_order r_roundSums c_samples c_palette c_has c_before c_carried n_samples n_palette n_has n_before n_carried f_thrown f_width f_height f_different f_groups f_rowSize f_ready f_size f_rounds f_samples f_palette f_has f_before f_carried) H := hP.sub [3, 5, 4, 0, 1, 2] rfl
        have hD : va_D A (wdMd_dither q_this q_samples q_palette q_has q_before q_carried r_isGiven r_gives r_colours r_many r_group r_row r_channelOf r_spreads r_boxMany r_there r_groupMany r_means r_sums r_takers r_takenSums r_order r_roundSums c_samples c_palette c_has c_before c_carried n_samples n_palette n_has n_before n_carried f_thrown f_width f_height f_different f_groups f_rowSize f_ready f_size f_rounds f_samples f_palette f_has f_before f_carried) := hD.sub [3, 5, 4, 0, 1, 2] (by decide) rfl
        obtain ⟨h_23, hv⟩ := hv
        refine va_iast hx hb hK hP hD hS 3 2 rfl rfl h_23 dMd_dither_129 (fun H locs hP hD hS => ?_)
        have hP : va_P (dC, dI) vwCl (wdMd_dither q_this q_samples q_palette q_has q_before q_carried r_isGiven r_gives r_colours r_many r_group r_row r_channelOf r_spreads r_boxMany r_there r_groupMany r_means r_sums r_takers r_takenSums r_order r_roundSums c_samples c_palette c_has c_before c_carried n_samples n_palette n_has n_before n_carried f_thrown f_width f_height f_different f_groups f_rowSize f_ready f_size f_rounds f_samples f_palette (upd f_has ((f_width * v2) + v4).toNatClampNeg r_21) f_before f_carried) H := hP
        have hD : va_D A (wdMd_dither q_this q_samples q_palette q_has q_before q_carried r_isGiven r_gives r_colours r_many r_group r_row r_channelOf r_spreads r_boxMany r_there r_groupMany r_means r_sums r_takers r_takenSums r_order r_roundSums c_samples c_palette c_has c_before c_carried n_samples n_palette n_has n_before n_carried f_thrown f_width f_height f_different f_groups f_rowSize f_ready f_size f_rounds f_samples f_palette (upd f_has ((f_width * v2) + v4).toNatClampNeg r_21) f_before f_carried) := hD
        refine lv_goto (tgt := 165) hx hb dMd_dither_130 (by decide) ?_
        exact j165 v2 v3 v4 f_thrown (upd f_has ((f_width * v2) + v4).toNatClampNeg r_21) f_before f_carried hv _ _ _ hP hD hS (lv_sub hl [0, 1, 2, 3, 4] rfl))
  have hv := hv (by
    intro v2 v3 f_thrown f_has f_before f_carried hv
    rw [eK181]
    intro H locs ls hP hD hS hl
    rw [eG]
    unfold vcMd_dither_181 at hv
    refine lv_iload_n hx hb dMd_dither_181 rfl (lv_at hl 2 rfl) ?_
    refine lv_aload_n hx hb dMd_dither_182 rfl (lv_at hl 0 rfl) ?_
    refine va_get (D := (dC, dI)) (ci := 8) (v := .int f_width) (C := RMd) (T := TMd) (N := 31) hx hb hB hiMd hown hK hP 0 rfl rfl 1 (by decide) hL78 (fun _ h9 => h9) rfl dMd_dither_183 ?_
    refine lv_aload_n hx hb dMd_dither_186 rfl (lv_at hl 0 rfl) ?_
    refine va_get (D := (dC, dI)) (ci := 8) (v := .int f_height) (C := RMd) (T := TMd) (N := 31) hx hb hB hiMd hown hK hP 0 rfl rfl 2 (by decide) hL82 (fun _ h9 => h9) rfl dMd_dither_187 ?_
    refine lv_imul hx hb dMd_dither_190 ?_
    refine lv_icmp_ge (tgt := 228) hx hb dMd_dither_191 (by decide) (fun c_25 => ?_) (fun c_25 => ?_)
    · have hv := hv.1 c_25
      refine lv_iload_n hx hb dMd_dither_228 rfl (lv_at hl 1 rfl) ?_
      exact W.iret (v := v2) hx hb hr (fun t ht hW => ⟨⟨_, (f_thrown, f_has, f_before, f_carried), rfl, hv, by rw [ht]; exact hP, hD⟩, hS.F ht⟩) hS.2.2 dMd_dither_229
    · have hv := hv.2 c_25
      refine lv_iload_n hx hb dMd_dither_194 rfl (lv_at hl 1 rfl) ?_
      refine lv_aload_n hx hb dMd_dither_195 rfl (lv_at hl 0 rfl) ?_
      refine va_get (D := (dC, dI)) (ci := 8) (v := .ref q_has) (C := RMd) (T := TMd) (N := 31) hx hb hB hiMd hown hK hP 0 rfl rfl 23 (by decide) hL57 (fun _ h9 => h9) rfl dMd_dither_196 ?_
      refine lv_iload_n hx hb dMd_dither_199 rfl (lv_at hl 2 rfl) ?_
      obtain ⟨h_26, hv⟩ := hv
      refine va_iald hx hb hK hP 3 2 rfl rfl h_26 dMd_dither_200 ?_
      refine lv_aload_n hx hb dMd_dither_201 rfl (lv_at hl 0 rfl) ?_
      refine lv_aload_n hx hb dMd_dither_202 rfl (lv_at hl 0 rfl) ?_
      refine va_get (D := (dC, dI)) (ci := 8) (v := .ref q_samples) (C := RMd) (T := TMd) (N := 31) hx hb hB hiMd hown hK hP 0 rfl rfl 3 (by decide) hL7 (fun _ h9 => h9) rfl dMd_dither_203 ?_
      refine lv_iconst (v := 4) hx hb dMd_dither_206 (by decide) ?_
      refine lv_iload_n hx hb dMd_dither_207 rfl (lv_at hl 2 rfl) ?_
      refine lv_imul hx hb dMd_dither_208 ?_
      have hFc := va_free (wc := (wdMd_nearestTo q_this q_palette q_samples q_samples r_isGiven r_gives r_colours r_many r_group r_row r_channelOf r_spreads r_boxMany r_there r_groupMany r_means r_sums q_has r_takers r_takenSums r_order q_before r_roundSums q_carried c_palette c_samples n_palette n_samples f_thrown f_width f_height f_different f_groups f_rowSize f_ready f_size f_rounds f_palette f_samples)) hD hS hA [0, 2, 1] rfl
      refine gx_i (wr := [(q_has, .inl (c_has, n_has, .inl f_has)), (q_before, .inl (c_before, n_before, .inl f_before)), (q_carried, .inl (c_carried, n_carried, .inl f_carried))]) (va_runV (As := [.ref q_samples, .int (4 * v3)]) (rest := [.int (f_has v3.toNatClampNeg), .int v2]) ⟨hx, hb, hml, hown, hB⟩ (metMd_nearestTo l dC dI q_this q_palette q_samples q_samples r_isGiven r_gives r_colours r_many r_group r_row r_channelOf r_spreads r_boxMany r_there r_groupMany r_means r_sums q_has r_takers r_takenSums r_order q_before r_roundSums q_carried c_palette c_samples n_palette n_samples H.size f_thrown f_width f_height f_different f_groups f_rowSize f_ready f_size f_rounds f_palette f_samples (4 * v3) hv) (cwV 2 hB (gx_gV bw759 bw760 bw38 bw53 bw761) rfl rfl rfl (by decide +kernel) ⟨(Nat.le_of_ble_eq_true rfl), (Nat.le_of_ble_eq_true rfl)⟩) (gx_preV (ci := 8) (hP.sub (ws' := (wdMd_nearestTo q_this q_palette q_samples q_samples r_isGiven r_gives r_colours r_many r_group r_row r_channelOf r_spreads r_boxMany r_there r_groupMany r_means r_sums q_has r_takers r_takenSums r_order q_before r_roundSums q_carried c_palette c_samples n_palette n_samples f_thrown f_width f_height f_different f_groups f_rowSize f_ready f_size f_rounds f_palette f_samples)) [0, 2, 1] rfl) (hK.sub (tys' := [(c_palette, .int), (c_samples, .int)]) [1, 0] rfl) (hD.sub (ws' := (wdMd_nearestTo q_this q_palette q_samples q_samples r_isGiven r_gives r_colours r_many r_group r_row r_channelOf r_spreads r_boxMany r_there r_groupMany r_means r_sums q_has r_takers r_takenSums r_order q_before r_roundSums q_carried c_palette c_samples n_palette n_samples f_thrown f_width f_height f_different f_groups f_rowSize f_ready f_size f_rounds f_palette f_samples)) [0, 2, 1] (by decide) rfl) hZ hS hFc rfl rfl) rfl rfl hl.1 rfl (lv_room (Nat.le_of_ble_eq_true rfl)) dMd_dither_209 ⟨(Nat.le_of_ble_eq_true rfl), (Nat.le_of_ble_eq_true rfl)⟩) hP hD hS hFc [0, 2, 1] [3, 4, 5] rfl rfl (by decide) (by decide) (fun r_27 u_28 H locs hv hP hD hS => ?_)
      have hP : va_P (dC, dI) vwCl (wdMd_dither q_this q_samples q_palette q_has q_before q_carried r_isGiven r_gives r_colours r_many r_group r_row r_channelOf r_spreads r_boxMany r_there r_groupMany r_means r_sums r_takers r_takenSums r_order r_roundSums c_samples c_palette c_has c_before c_carried n_samples n_palette n_has n_before n_carried f_thrown f_width f_height f_different f_groups f_rowSize f_ready f_size f_rounds f_samples f_palette f_has f_before f_carried) H := hP.sub [3, 5, 4, 0, 1, 2] rfl
      have hD : va_D A (wdMd_dither q_this q_samples q_palette q_has q_before q_carried r_isGiven r_gives r_colours r_many r_group r_row r_channelOf r_spreads r_boxMany r_there r_groupMany r_means r_sums r_takers r_takenSums r_order r_roundSums c_samples c_palette c_has c_before c_carried n_samples n_palette n_has n_before n_carried f_thrown f_width f_height f_different f_groups f_rowSize f_ready f_size f_rounds f_samples f_palette f_has f_before f_carried) := hD.sub [3, 5, 4, 0, 1, 2] (by decide) rfl
      refine lv_icmp_eq (tgt := 219) hx hb dMd_dither_212 (by decide) (fun c_29 => ?_) (fun c_29 => ?_)
      · have hv := hv.1 c_29
        refine lv_iconst (v := 0) hx hb dMd_dither_219 (by decide) ?_
        exact j220 v3 0 v2 f_thrown f_has f_before f_carried hv _ _ _ hP hD hS (lv_sub hl [0, 2] rfl)
      · have hv := hv.2 c_29
        refine lv_iconst (v := 1) hx hb dMd_dither_215 (by decide) ?_
        refine lv_goto (tgt := 220) hx hb dMd_dither_216 (by decide) ?_
        exact j220 v3 1 v2 f_thrown f_has f_before f_carried hv _ _ _ hP hD hS (lv_sub hl [0, 2] rfl))
  rw [eG]
  refine lv_aload_n hx hb dMd_dither_0 rfl (lv_at hl 0 rfl) ?_
  refine lv_iload_n hx hb dMd_dither_1 rfl (lv_at hl 1 rfl) ?_
  refine lv_if_lt (tgt := 14) hx hb dMd_dither_2 (by decide) (fun c_30 => ?_) (fun c_30 => ?_)
  · have hv := hv.1 c_30
    exact j14  hv _ _ _ hP hD hS (lv_sub hl [0, 1] rfl)
  · have hv := hv.2 c_30
    refine lv_iload_n hx hb dMd_dither_5 rfl (lv_at hl 1 rfl) ?_
    refine lv_iconst (v := 2) hx hb dMd_dither_6 (by decide) ?_
    refine lv_icmp_gt (tgt := 14) hx hb dMd_dither_7 (by decide) (fun c_31 => ?_) (fun c_31 => ?_)
    · have hv := hv.1 c_31
      exact j14  hv _ _ _ hP hD hS (lv_sub hl [0, 1] rfl)
    · have hv := hv.2 c_31
      refine lv_iconst (v := 1) hx hb dMd_dither_10 (by decide) ?_
      refine lv_goto (tgt := 15) hx hb dMd_dither_11 (by decide) ?_
      exact j15 1 hv _ _ _ hP hD hS (lv_sub hl [0, 1] rfl)
abbrev wdMd_count (q_this q_has r_samples r_isGiven r_gives r_colours r_many r_group r_row r_channelOf r_spreads r_boxMany r_there r_groupMany r_means r_sums r_palette r_takers r_takenSums r_order r_before r_roundSums r_carried : Nat) (c_has : ClassId) (n_has : Nat) (f_thrown : Int32) (f_width : Int32) (f_height : Int32) (f_different : Int32) (f_groups : Int32) (f_rowSize : Int32) (f_ready : Int32) (f_size : Int32) (f_rounds : Int32) (f_has : Nat → Int32) : va_W := [(q_this, .inr (8, [.int f_thrown, .int f_width, .int f_height, .ref r_samples, .ref r_isGiven, .ref r_gives, .int f_different, .ref r_colours, .ref r_many, .ref r_group, .int f_groups, .ref r_row, .int f_rowSize, .ref r_channelOf, .ref r_spreads, .ref r_boxMany, .ref r_there, .ref r_groupMany, .ref r_means, .ref r_sums, .int f_ready, .int f_size, .ref r_palette, .ref q_has, .ref r_takers, .ref r_takenSums, .ref r_order, .ref r_before, .int f_rounds, .ref r_roundSums, .ref r_carried])), (q_has, .inl (c_has, n_has, .inl f_has))]
set_option maxHeartbeats 4000000 in
set_option maxRecDepth 100000 in
theorem metMd_count (l : Launch) (dC : Nat → ClassId) (dI : Nat → Nat → Nat) (q_this q_has r_samples r_isGiven r_gives r_colours r_many r_group r_row r_channelOf r_spreads r_boxMany r_there r_groupMany r_means r_sums r_palette r_takers r_takenSums r_order r_before r_roundSums r_carried : Nat) (c_has : ClassId) (n_has : Nat) (sz : Nat) (f_thrown : Int32) (f_width : Int32) (f_height : Int32) (f_different : Int32) (f_groups : Int32) (f_rowSize : Int32) (f_ready : Int32) (f_size : Int32) (f_rounds : Int32) (f_has : Nat → Int32) (x1 : Int32) {post : Int32 → Int32 → Prop} (hw : wpMd_count n_has f_thrown f_width f_height f_different f_groups f_rowSize f_ready f_size f_rounds f_has x1 post) : Met l yMd_count (.code yMd_count bMd_count 4 (some .int) :: BIG) ({ frames := 1, cells := 0, slots := 0, locals := 21 }) (va_Pc [.ref q_this, .int x1] (gx_pre (dC, dI) vwCl (wdMd_count q_this q_has r_samples r_isGiven r_gives r_colours r_many r_group r_row r_channelOf r_spreads r_boxMany r_there r_groupMany r_means r_sums r_palette r_takers r_takenSums r_order r_before r_roundSums r_carried c_has n_has f_thrown f_width f_height f_different f_groups f_rowSize f_ready f_size f_rounds f_has) [(c_has, .int)] sz)) (va_Qi (fun r (u : Int32) => post r u) (gx_B (dC, dI) vwCl (va_A (wdMd_count q_this q_has r_samples r_isGiven r_gives r_colours r_many r_group r_row r_channelOf r_spreads r_boxMany r_there r_groupMany r_means r_sums r_palette r_takers r_takenSums r_order r_before r_roundSums r_carried c_has n_has f_thrown f_width f_height f_different f_groups f_rowSize f_ready f_size f_rounds f_has) sz) (fun (u : Int32) => (wdMd_count q_this q_has r_samples r_isGiven r_gives r_colours r_many r_group r_row r_channelOf r_spreads r_boxMany r_there r_groupMany r_means r_sums r_palette r_takers r_takenSums r_order r_before r_roundSums r_carried c_has n_has u f_width f_height f_different f_groups f_rowSize f_ready f_size f_rounds f_has))) (va_A (wdMd_count q_this q_has r_samples r_isGiven r_gives r_colours r_many r_group r_row r_channelOf r_spreads r_boxMany r_there r_groupMany r_means r_sums r_palette r_takers r_takenSums r_order r_before r_roundSums r_carried c_has n_has f_thrown f_width f_height f_different f_groups f_rowSize f_ready f_size f_rounds f_has) sz)) 0 0 (va_A (wdMd_count q_this q_has r_samples r_isGiven r_gives r_colours r_many r_group r_row r_channelOf r_spreads r_boxMany r_there r_groupMany r_means r_sums r_palette r_takers r_takenSums r_order r_before r_roundSums r_carried c_has n_has f_thrown f_width f_height f_different f_groups f_rowSize f_ready f_size f_rounds f_has) sz) := by
  refine Met.ofW (cc := bMd_count) (maxL := 4) (ret := (some .int)) (by decide) rfl ?_
  intro p e s m args below meth c s₁ B hml hv
  obtain ⟨rfl, hsz, hP, hK, hD0, hZ⟩ := hv
  have hx := B.exec
  have hb := B.bytes
  have hr := B.returns
  have hts := atoms_spec (ws := (.code yMd_count bMd_count 4 (some .int) :: BIG)) B.pre
  have hB : ∀ w ∈ BIG, w.before _ s = true := fun w h => hts w (List.mem_cons_of_mem _ h)
  have hown : s.vm.findClass RMd = some m.cls := findClass_of_methodNamed B.named
  have hlocks := B.notSynchronized
  subst hsz
  have hD := hD0.self (sz := s.heap.size)
  generalize hAe : va_A (wdMd_count q_this q_has r_samples r_isGiven r_gives r_colours r_many r_group r_row r_channelOf r_spreads r_boxMany r_there r_groupMany r_means r_sums r_palette r_takers r_takenSums r_order r_before r_roundSums r_carried c_has n_has f_thrown f_width f_height f_different f_groups f_rowSize f_ready f_size f_rounds f_has) s.heap.size = A at hD hZ ⊢
  have hA : ∀ q : Nat, s.heap.size ≤ q → A q := fun q h => by rw [← hAe]; exact Or.inr h
  have hS : va_S A s.heap s.heap [] := va_S.rf
  have hl := lv_entry ([.ref q_this, .int x1]) (n := 4) (Nat.le_of_ble_eq_true rfl)
  rw [lg_entry_eq]
  generalize (lg_sl ([.ref q_this, .int x1]) ++ List.replicate (4 - (lg_sl ([.ref q_this, .int x1])).length) Slot.unset).toArray = ls at hl ⊢
  have hl : lv_has ls 4 [(0, .ref q_this), (1, .int x1)] := hl
  have hL57 := (hB _ bw638)
  have hL78 := (hB _ bw616)
  have hL82 := (hB _ bw617)
  have hL158 := (hB _ bw636)
  refine gx_abs (fun G eG => ?_)
  obtain ⟨K30, eK30⟩ : ∃ K : Int32 → Int32 → Int32 → Prop, K = fun v2 v3 f_thrown => ∀ (H : Heap) (locs : List Loc) (ls : Array Slot), va_P (dC, dI) vwCl (wdMd_count q_this q_has r_samples r_isGiven r_gives r_colours r_many r_group r_row r_channelOf r_spreads r_boxMany r_there r_groupMany r_means r_sums r_palette r_takers r_takenSums r_order r_before r_roundSums r_carried c_has n_has f_thrown f_width f_height f_different f_groups f_rowSize f_ready f_size f_rounds f_has) H → va_D A (wdMd_count q_this q_has r_samples r_isGiven r_gives r_colours r_many r_group r_row r_channelOf r_spreads r_boxMany r_there r_groupMany r_means r_sums r_palette r_takers r_takenSums r_order r_before r_roundSums r_carried c_has n_has f_thrown f_width f_height f_different f_groups f_rowSize f_ready f_size f_rounds f_has) → va_S A s.heap H locs → lv_has ls 4 [(0, .ref q_this), (1, .int x1), (2, .int v2), (3, .int v3)] → G H locs 0 0 (F0 m 30 ls []) := ⟨_, rfl⟩
  have j59 : ∀ (v3 : Int32) (s0 : Int32) (s1 : Int32) (f_thrown : Int32), vcMd_count_59 n_has f_width f_height f_different f_groups f_rowSize f_ready f_size f_rounds f_has x1 K30 post v3 s0 s1 f_thrown → ∀ (H : Heap) (locs : List Loc) (ls : Array Slot), va_P (dC, dI) vwCl (wdMd_count q_this q_has r_samples r_isGiven r_gives r_colours r_many r_group r_row r_channelOf r_spreads r_boxMany r_there r_groupMany r_means r_sums r_palette r_takers r_takenSums r_order r_before r_roundSums r_carried c_has n_has f_thrown f_width f_height f_different f_groups f_rowSize f_ready f_size f_rounds f_has) H → va_D A (wdMd_count q_this q_has r_samples r_isGiven r_gives r_colours r_many r_group r_row r_channelOf r_spreads r_boxMany r_there r_groupMany r_means r_sums r_palette r_takers r_takenSums r_order r_before r_roundSums r_carried c_has n_has f_thrown f_width f_height f_different f_groups f_rowSize f_ready f_size f_rounds f_has) → va_S A s.heap H locs → lv_has ls 4 [(0, .ref q_this), (1, .int x1), (3, .int v3)] → G H locs 0 0 (F0 m 59 ls [.int s0, .int s1]) := by
    intro v3 s0 s1 f_thrown hv H locs ls hP hD hS hl
    rw [eG]
    unfold vcMd_count_59 at hv
    refine lv_iadd hx hb dMd_count_59 ?_
    refine lv_topi (fun v2_1 ev2_1 => ?_)
    have hv := hv v2_1 ev2_1
    refine lv_istore_n (lv' := [(2, .int v2_1), (0, .ref q_this), (1, .int x1), (3, .int v3)]) hx hb dMd_count_60 rfl hl (by decide) rfl (fun ls hl => ?_)
    refine lv_iinc (v := v3 + 1) (lv' := [(3, .int (v3 + 1)), (2, .int v2_1), (0, .ref q_this), (1, .int x1)]) hx hb dMd_count_61 hl (k := 3) rfl rfl (by decide) rfl (fun ls hl => ?_)
    refine lv_goto (tgt := 30) hx hb dMd_count_64 (by decide) ?_
    rw [eK30, eG] at hv
    exact hv _ _ _ hP hD hS (lv_sub hl [2, 3, 1, 0] rfl)
  rw [eG] at j59
  have j18 : ∀ (s0 : Int32), vcMd_count_18 n_has f_width f_height f_different f_groups f_rowSize f_ready f_size f_rounds f_has x1 K30 post s0 f_thrown → ∀ (H : Heap) (locs : List Loc) (ls : Array Slot), va_P (dC, dI) vwCl (wdMd_count q_this q_has r_samples r_isGiven r_gives r_colours r_many r_group r_row r_channelOf r_spreads r_boxMany r_there r_groupMany r_means r_sums r_palette r_takers r_takenSums r_order r_before r_roundSums r_carried c_has n_has f_thrown f_width f_height f_different f_groups f_rowSize f_ready f_size f_rounds f_has) H → va_D A (wdMd_count q_this q_has r_samples r_isGiven r_gives r_colours r_many r_group r_row r_channelOf r_spreads r_boxMany r_there r_groupMany r_means r_sums r_palette r_takers r_takenSums r_order r_before r_roundSums r_carried c_has n_has f_thrown f_width f_height f_different f_groups f_rowSize f_ready f_size f_rounds f_has) → va_S A s.heap H locs → lv_has ls 4 [(0, .ref q_this), (1, .int x1)] → G H locs 0 0 (F0 m 18 ls [.int s0, .ref q_this]) := by
    intro s0 hv H locs ls hP hD hS hl
    rw [eG]
    unfold vcMd_count_18 at hv
    have hFc := va_free (wc := (wdMd_tells q_this r_samples r_isGiven r_gives r_colours r_many r_group r_row r_channelOf r_spreads r_boxMany r_there r_groupMany r_means r_sums r_palette q_has r_takers r_takenSums r_order r_before r_roundSums r_carried f_thrown f_width f_height f_different f_groups f_rowSize f_ready f_size f_rounds)) hD hS hA [0] rfl
    refine gx_i (wr := [(q_has, .inl (c_has, n_has, .inl f_has))]) (va_runV (As := [.int s0]) (rest := []) ⟨hx, hb, hml, hown, hB⟩ (metMd_tells l dC dI q_this r_samples r_isGiven r_gives r_colours r_many r_group r_row r_channelOf r_spreads r_boxMany r_there r_groupMany r_means r_sums r_palette q_has r_takers r_takenSums r_order r_before r_roundSums r_carried H.size f_thrown f_width f_height f_different f_groups f_rowSize f_ready f_size f_rounds s0 hv) (cwV 1 hB (gx_gV bw772 bw773 bw41 bw53 bw774) rfl rfl rfl (by decide +kernel) ⟨(Nat.le_of_ble_eq_true rfl), (Nat.le_of_ble_eq_true rfl)⟩) (gx_preV (ci := 8) (hP.sub (ws' := (wdMd_tells q_this r_samples r_isGiven r_gives r_colours r_many r_group r_row r_channelOf r_spreads r_boxMany r_there r_groupMany r_means r_sums r_palette q_has r_takers r_takenSums r_order r_before r_roundSums r_carried f_thrown f_width f_height f_different f_groups f_rowSize f_ready f_size f_rounds)) [0] rfl) (hK.sub (tys' := []) [] rfl) (hD.sub (ws' := (wdMd_tells q_this r_samples r_isGiven r_gives r_colours r_many r_group r_row r_channelOf r_spreads r_boxMany r_there r_groupMany r_means r_sums r_palette q_has r_takers r_takenSums r_order r_before r_roundSums r_carried f_thrown f_width f_height f_different f_groups f_rowSize f_ready f_size f_rounds)) [0] (by decide) rfl) hZ hS hFc rfl rfl) rfl rfl hl.1 rfl (lv_room (Nat.le_of_ble_eq_true rfl)) dMd_count_18 ⟨(Nat.le_of_ble_eq_true rfl), (Nat.le_of_ble_eq_true rfl)⟩) hP hD hS hFc [0] [1] rfl rfl (by decide) (by decide) (fun r_3 u_4 H locs hv hP hD hS => ?_)
    obtain ⟨f_thrown_2, rfl⟩ : ∃ z, z = u_4 := ⟨_, rfl⟩
    have hP : va_P (dC, dI) vwCl (wdMd_count q_this q_has r_samples r_isGiven r_gives r_colours r_many r_group r_row r_channelOf r_spreads r_boxMany r_there r_groupMany r_means r_sums r_palette r_takers r_takenSums r_order r_before r_roundSums r_carried c_has n_has f_thrown_2 f_width f_height f_different f_groups f_rowSize f_ready f_size f_rounds f_has) H := hP.sub [1, 0] rfl
    have hD : va_D A (wdMd_count q_this q_has r_samples r_isGiven r_gives r_colours r_many r_group r_row r_channelOf r_spreads r_boxMany r_there r_groupMany r_means r_sums r_palette r_takers r_takenSums r_order r_before r_roundSums r_carried c_has n_has f_thrown_2 f_width f_height f_different f_groups f_rowSize f_ready f_size f_rounds f_has) := hD.sub [1, 0] (by decide) rfl
    refine lv_if_ne (tgt := 26) hx hb dMd_count_21 (by decide) (fun c_5 => ?_) (fun c_5 => ?_)
    · have hv := hv.1 c_5
      refine lv_iconst (v := 0) hx hb dMd_count_26 (by decide) ?_
      refine lv_istore_n (lv' := [(2, .int 0), (0, .ref q_this), (1, .int x1)]) hx hb dMd_count_27 rfl hl (by decide) rfl (fun ls hl => ?_)
      refine lv_iconst (v := 0) hx hb dMd_count_28 (by decide) ?_
      refine lv_istore_n (lv' := [(3, .int 0), (2, .int 0), (0, .ref q_this), (1, .int x1)]) hx hb dMd_count_29 rfl hl (by decide) rfl (fun ls hl => ?_)
      rw [eK30, eG] at hv
      exact hv _ _ _ hP hD hS (lv_sub hl [2, 3, 1, 0] rfl)
    · have hv := hv.2 c_5
      refine lv_iconst (v := 0) hx hb dMd_count_24 (by decide) ?_
      exact W.iret (v := 0) hx hb hr (fun t ht hW => ⟨⟨_, f_thrown_2, rfl, hv, by rw [ht]; exact hP, hD⟩, hS.F ht⟩) hS.2.2 dMd_count_25
  rw [eG] at j18
  have j17 : vcMd_count_17 n_has f_width f_height f_different f_groups f_rowSize f_ready f_size f_rounds f_has x1 K30 post f_thrown → ∀ (H : Heap) (locs : List Loc) (ls : Array Slot), va_P (dC, dI) vwCl (wdMd_count q_this q_has r_samples r_isGiven r_gives r_colours r_many r_group r_row r_channelOf r_spreads r_boxMany r_there r_groupMany r_means r_sums r_palette r_takers r_takenSums r_order r_before r_roundSums r_carried c_has n_has f_thrown f_width f_height f_different f_groups f_rowSize f_ready f_size f_rounds f_has) H → va_D A (wdMd_count q_this q_has r_samples r_isGiven r_gives r_colours r_many r_group r_row r_channelOf r_spreads r_boxMany r_there r_groupMany r_means r_sums r_palette r_takers r_takenSums r_order r_before r_roundSums r_carried c_has n_has f_thrown f_width f_height f_different f_groups f_rowSize f_ready f_size f_rounds f_has) → va_S A s.heap H locs → lv_has ls 4 [(0, .ref q_this), (1, .int x1)] → G H locs 0 0 (F0 m 17 ls [.ref q_this]) := by
    intro  hv H locs ls hP hD hS hl
    rw [eG]
    unfold vcMd_count_17 at hv
    refine lv_iconst (v := 0) hx hb dMd_count_17 (by decide) ?_
    exact j18 0 hv _ _ _ hP hD hS (lv_sub hl [0, 1] rfl)
  rw [eG] at j17
  unfold wpMd_count at hw
  have hv := hw K30
  have hv := hv (by
    intro v2 v3 f_thrown hv
    rw [eK30]
    intro H locs ls hP hD hS hl
    rw [eG]
    unfold vcMd_count_30 at hv
    refine lv_iload_n hx hb dMd_count_30 rfl (lv_at hl 3 rfl) ?_
    refine lv_aload_n hx hb dMd_count_31 rfl (lv_at hl 0 rfl) ?_
    refine va_get (D := (dC, dI)) (ci := 8) (v := .int f_width) (C := RMd) (T := TMd) (N := 31) hx hb hB hiMd hown hK hP 0 rfl rfl 1 (by decide) hL78 (fun _ h9 => h9) rfl dMd_count_32 ?_
    refine lv_aload_n hx hb dMd_count_35 rfl (lv_at hl 0 rfl) ?_
    refine va_get (D := (dC, dI)) (ci := 8) (v := .int f_height) (C := RMd) (T := TMd) (N := 31) hx hb hB hiMd hown hK hP 0 rfl rfl 2 (by decide) hL82 (fun _ h9 => h9) rfl dMd_count_36 ?_
    refine lv_imul hx hb dMd_count_39 ?_
    refine lv_icmp_ge (tgt := 67) hx hb dMd_count_40 (by decide) (fun c_6 => ?_) (fun c_6 => ?_)
    · have hv := hv.1 c_6
      refine lv_iload_n hx hb dMd_count_67 rfl (lv_at hl 2 rfl) ?_
      exact W.iret (v := v2) hx hb hr (fun t ht hW => ⟨⟨_, f_thrown, rfl, hv, by rw [ht]; exact hP, hD⟩, hS.F ht⟩) hS.2.2 dMd_count_68
    · have hv := hv.2 c_6
      refine lv_iload_n hx hb dMd_count_43 rfl (lv_at hl 2 rfl) ?_
      refine lv_aload_n hx hb dMd_count_44 rfl (lv_at hl 0 rfl) ?_
      refine va_get (D := (dC, dI)) (ci := 8) (v := .ref q_has) (C := RMd) (T := TMd) (N := 31) hx hb hB hiMd hown hK hP 0 rfl rfl 23 (by decide) hL57 (fun _ h9 => h9) rfl dMd_count_45 ?_
      refine lv_iload_n hx hb dMd_count_48 rfl (lv_at hl 3 rfl) ?_
      obtain ⟨h_7, hv⟩ := hv
      refine va_iald hx hb hK hP 1 0 rfl rfl h_7 dMd_count_49 ?_
      refine lv_iload_n hx hb dMd_count_50 rfl (lv_at hl 1 rfl) ?_
      refine lv_icmp_ne (tgt := 58) hx hb dMd_count_51 (by decide) (fun c_8 => ?_) (fun c_8 => ?_)
      · have hv := hv.1 c_8
        refine lv_iconst (v := 0) hx hb dMd_count_58 (by decide) ?_
        exact j59 v3 0 v2 f_thrown hv _ _ _ hP hD hS (lv_sub hl [0, 1, 3] rfl)
      · have hv := hv.2 c_8
        refine lv_iconst (v := 1) hx hb dMd_count_54 (by decide) ?_
        refine lv_goto (tgt := 59) hx hb dMd_count_55 (by decide) ?_
        exact j59 v3 1 v2 f_thrown hv _ _ _ hP hD hS (lv_sub hl [0, 1, 3] rfl))
  rw [eG]
  refine lv_aload_n hx hb dMd_count_0 rfl (lv_at hl 0 rfl) ?_
  refine lv_iload_n hx hb dMd_count_1 rfl (lv_at hl 1 rfl) ?_
  refine lv_if_lt (tgt := 17) hx hb dMd_count_2 (by decide) (fun c_9 => ?_) (fun c_9 => ?_)
  · have hv := hv.1 c_9
    exact j17  hv _ _ _ hP hD hS (lv_sub hl [0, 1] rfl)
  · have hv := hv.2 c_9
    refine lv_iload_n hx hb dMd_count_5 rfl (lv_at hl 1 rfl) ?_
    refine lv_aload_n hx hb dMd_count_6 rfl (lv_at hl 0 rfl) ?_
    refine va_get (D := (dC, dI)) (ci := 8) (v := .int f_size) (C := RMd) (T := TMd) (N := 31) hx hb hB hiMd hown hK hP 0 rfl rfl 21 (by decide) hL158 (fun _ h9 => h9) rfl dMd_count_7 ?_
    refine lv_icmp_ge (tgt := 17) hx hb dMd_count_10 (by decide) (fun c_10 => ?_) (fun c_10 => ?_)
    · have hv := hv.1 c_10
      exact j17  hv _ _ _ hP hD hS (lv_sub hl [0, 1] rfl)
    · have hv := hv.2 c_10
      refine lv_iconst (v := 1) hx hb dMd_count_13 (by decide) ?_
      refine lv_goto (tgt := 18) hx hb dMd_count_14 (by decide) ?_
      exact j18 1 hv _ _ _ hP hD hS (lv_sub hl [0, 1] rfl)
abbrev wdMd_exact (q_this q_samples q_palette q_has r_isGiven r_gives r_colours r_many r_group r_row r_channelOf r_spreads r_boxMany r_there r_groupMany r_means r_sums r_takers r_takenSums r_order r_before r_roundSums r_carried : Nat) (c_samples c_palette c_has : ClassId) (n_samples n_palette n_has : Nat) (f_thrown : Int32) (f_width : Int32) (f_height : Int32) (f_different : Int32) (f_groups : Int32) (f_rowSize : Int32) (f_ready : Int32) (f_size : Int32) (f_rounds : Int32) (f_samples : Nat → Int32) (f_palette : Nat → Int32) (f_has : Nat → Int32) : va_W := [(q_this, .inr (8, [.int f_thrown, .int f_width, .int f_height, .ref q_samples, .ref r_isGiven, .ref r_gives, .int f_different, .ref r_colours, .ref r_many, .ref r_group, .int f_groups, .ref r_row, .int f_rowSize, .ref r_channelOf, .ref r_spreads, .ref r_boxMany, .ref r_there, .ref r_groupMany, .ref r_means, .ref r_sums, .int f_ready, .int f_size, .ref q_palette, .ref q_has, .ref r_takers, .ref r_takenSums, .ref r_order, .ref r_before, .int f_rounds, .ref r_roundSums, .ref r_carried])), (q_samples, .inl (c_samples, n_samples, .inl f_samples)), (q_palette, .inl (c_palette, n_palette, .inl f_palette)), (q_has, .inl (c_has, n_has, .inl f_has))]
set_option maxHeartbeats 4000000 in
set_option maxRecDepth 100000 in
theorem metMd_exact (l : Launch) (dC : Nat → ClassId) (dI : Nat → Nat → Nat) (q_this q_samples q_palette q_has r_isGiven r_gives r_colours r_many r_group r_row r_channelOf r_spreads r_boxMany r_there r_groupMany r_means r_sums r_takers r_takenSums r_order r_before r_roundSums r_carried : Nat) (c_samples c_palette c_has : ClassId) (n_samples n_palette n_has : Nat) (sz : Nat) (f_thrown : Int32) (f_width : Int32) (f_height : Int32) (f_different : Int32) (f_groups : Int32) (f_rowSize : Int32) (f_ready : Int32) (f_size : Int32) (f_rounds : Int32) (f_samples : Nat → Int32) (f_palette : Nat → Int32) (f_has : Nat → Int32) {post : Int32 → Int32 → Prop} (hw : wpMd_exact n_samples n_palette n_has f_thrown f_width f_height f_different f_groups f_rowSize f_ready f_size f_rounds f_samples f_palette f_has post) : Met l yMd_exact (.code yMd_exact bMd_exact 3 (some .boolean) :: BIG) ({ frames := 1, cells := 0, slots := 0, locals := 24 }) (va_Pc [.ref q_this] (gx_pre (dC, dI) vwCl (wdMd_exact q_this q_samples q_palette q_has r_isGiven r_gives r_colours r_many r_group r_row r_channelOf r_spreads r_boxMany r_there r_groupMany r_means r_sums r_takers r_takenSums r_order r_before r_roundSums r_carried c_samples c_palette c_has n_samples n_palette n_has f_thrown f_width f_height f_different f_groups f_rowSize f_ready f_size f_rounds f_samples f_palette f_has) [(c_samples, .int), (c_palette, .int), (c_has, .int)] sz)) (va_Qi (fun r (u : Int32) => post r u) (gx_B (dC, dI) vwCl (va_A (wdMd_exact q_this q_samples q_palette q_has r_isGiven r_gives r_colours r_many r_group r_row r_channelOf r_spreads r_boxMany r_there r_groupMany r_means r_sums r_takers r_takenSums r_order r_before r_roundSums r_carried c_samples c_palette c_has n_samples n_palette n_has f_thrown f_width f_height f_different f_groups f_rowSize f_ready f_size f_rounds f_samples f_palette f_has) sz) (fun (u : Int32) => (wdMd_exact q_this q_samples q_palette q_has r_isGiven r_gives r_colours r_many r_group r_row r_channelOf r_spreads r_boxMany r_there r_groupMany r_means r_sums r_takers r_takenSums r_order r_before r_roundSums r_carried c_samples c_palette c_has n_samples n_palette n_has u f_width f_height f_different f_groups f_rowSize f_ready f_size f_rounds f_samples f_palette f_has))) (va_A (wdMd_exact q_this q_samples q_palette q_has r_isGiven r_gives r_colours r_many r_group r_row r_channelOf r_spreads r_boxMany r_there r_groupMany r_means r_sums r_takers r_takenSums r_order r_before r_roundSums r_carried c_samples c_palette c_has n_samples n_palette n_has f_thrown f_width f_height f_different f_groups f_rowSize f_ready f_size f_rounds f_samples f_palette f_has) sz)) 0 0 (va_A (wdMd_exact q_this q_samples q_palette q_has r_isGiven r_gives r_colours r_many r_group r_row r_channelOf r_spreads r_boxMany r_there r_groupMany r_means r_sums r_takers r_takenSums r_order r_before r_roundSums r_carried c_samples c_palette c_has n_samples n_palette n_has f_thrown f_width f_height f_different f_groups f_rowSize f_ready f_size f_rounds f_samples f_palette f_has) sz) := by
  refine Met.ofW (cc := bMd_exact) (maxL := 3) (ret := (some .boolean)) (by decide) rfl ?_
  intro p e s m args below meth c s₁ B hml hv
  obtain ⟨rfl, hsz, hP, hK, hD0, hZ⟩ := hv
  have hx := B.exec
  have hb := B.bytes
  have hr := B.returns
  have hts := atoms_spec (ws := (.code yMd_exact bMd_exact 3 (some .boolean) :: BIG)) B.pre
  have hB : ∀ w ∈ BIG, w.before _ s = true := fun w h => hts w (List.mem_cons_of_mem _ h)
  have hown : s.vm.findClass RMd = some m.cls := findClass_of_methodNamed B.named
  have hlocks := B.notSynchronized
  subst hsz
  have hD := hD0.self (sz := s.heap.size)
  generalize hAe : va_A (wdMd_exact q_this q_samples q_palette q_has r_isGiven r_gives r_colours r_many r_group r_row r_channelOf r_spreads r_boxMany r_there r_groupMany r_means r_sums r_takers r_takenSums r_order r_before r_roundSums r_carried c_samples c_palette c_has n_samples n_palette n_has f_thrown f_width f_height f_different f_groups f_rowSize f_ready f_size f_rounds f_samples f_palette f_has) s.heap.size = A at hD hZ ⊢
  have hA : ∀ q : Nat, s.heap.size ≤ q → A q := fun q h => by rw [← hAe]; exact Or.inr h
  have hS : va_S A s.heap s.heap [] := va_S.rf
  have hl := lv_entry ([.ref q_this]) (n := 3) (Nat.le_of_ble_eq_true rfl)
  rw [lg_entry_eq]
  generalize (lg_sl ([.ref q_this]) ++ List.replicate (3 - (lg_sl ([.ref q_this])).length) Slot.unset).toArray = ls at hl ⊢
  have hl : lv_has ls 3 [(0, .ref q_this)] := hl
  have hL7 := (hB _ bw618)
  have hL54 := (hB _ bw637)
  have hL57 := (hB _ bw638)
  have hL78 := (hB _ bw616)
  have hL82 := (hB _ bw617)
  refine gx_abs (fun G eG => ?_)
  obtain ⟨K8, eK8⟩ : ∃ K : Int32 → Int32 → Int32 → Prop, K = fun v1 v2 f_thrown => ∀ (H : Heap) (locs : List Loc) (ls : Array Slot), va_P (dC, dI) vwCl (wdMd_exact q_this q_samples q_palette q_has r_isGiven r_gives r_colours r_many r_group r_row r_channelOf r_spreads r_boxMany r_there r_groupMany r_means r_sums r_takers r_takenSums r_order r_before r_roundSums r_carried c_samples c_palette c_has n_samples n_palette n_has f_thrown f_width f_height f_different f_groups f_rowSize f_ready f_size f_rounds f_samples f_palette f_has) H → va_D A (wdMd_exact q_this q_samples q_palette q_has r_isGiven r_gives r_colours r_many r_group r_row r_channelOf r_spreads r_boxMany r_there r_groupMany r_means r_sums r_takers r_takenSums r_order r_before r_roundSums r_carried c_samples c_palette c_has n_samples n_palette n_has f_thrown f_width f_height f_different f_groups f_rowSize f_ready f_size f_rounds f_samples f_palette f_has) → va_S A s.heap H locs → lv_has ls 3 [(0, .ref q_this), (1, .int v1), (2, .int v2)] → G H locs 0 0 (F0 m 8 ls []) := ⟨_, rfl⟩
  have j62 : ∀ (v1 : Int32) (f_thrown : Int32), vcMd_exact_62 n_samples n_palette n_has f_width f_height f_different f_groups f_rowSize f_ready f_size f_rounds f_samples f_palette f_has K8 post v1 f_thrown → ∀ (H : Heap) (locs : List Loc) (ls : Array Slot), va_P (dC, dI) vwCl (wdMd_exact q_this q_samples q_palette q_has r_isGiven r_gives r_colours r_many r_group r_row r_channelOf r_spreads r_boxMany r_there r_groupMany r_means r_sums r_takers r_takenSums r_order r_before r_roundSums r_carried c_samples c_palette c_has n_samples n_palette n_has f_thrown f_width f_height f_different f_groups f_rowSize f_ready f_size f_rounds f_samples f_palette f_has) H → va_D A (wdMd_exact q_this q_samples q_palette q_has r_isGiven r_gives r_colours r_many r_group r_row r_channelOf r_spreads r_boxMany r_there r_groupMany r_means r_sums r_takers r_takenSums r_order r_before r_roundSums r_carried c_samples c_palette c_has n_samples n_palette n_has f_thrown f_width f_height f_different f_groups f_rowSize f_ready f_size f_rounds f_samples f_palette f_has) → va_S A s.heap H locs → lv_has ls 3 [(1, .int v1)] → G H locs 0 0 (F0 m 62 ls []) := by
    intro v1 f_thrown hv H locs ls hP hD hS hl
    rw [eG]
    unfold vcMd_exact_62 at hv
    refine lv_iload_n hx hb dMd_exact_62 rfl (lv_at hl 0 rfl) ?_
    obtain ⟨h_1, hv⟩ := hv
    exact W.zret (v := v1) hx hb hr h_1 (fun t ht hW => ⟨⟨_, f_thrown, rfl, hv, by rw [ht]; exact hP, hD⟩, hS.F ht⟩) hS.2.2 dMd_exact_63
  rw [eG] at j62
  have j55 : ∀ (v2 : Int32) (s0 : Int32) (f_thrown : Int32), vcMd_exact_55 n_samples n_palette n_has f_width f_height f_different f_groups f_rowSize f_ready f_size f_rounds f_samples f_palette f_has K8 post v2 s0 f_thrown → ∀ (H : Heap) (locs : List Loc) (ls : Array Slot), va_P (dC, dI) vwCl (wdMd_exact q_this q_samples q_palette q_has r_isGiven r_gives r_colours r_many r_group r_row r_channelOf r_spreads r_boxMany r_there r_groupMany r_means r_sums r_takers r_takenSums r_order r_before r_roundSums r_carried c_samples c_palette c_has n_samples n_palette n_has f_thrown f_width f_height f_different f_groups f_rowSize f_ready f_size f_rounds f_samples f_palette f_has) H → va_D A (wdMd_exact q_this q_samples q_palette q_has r_isGiven r_gives r_colours r_many r_group r_row r_channelOf r_spreads r_boxMany r_there r_groupMany r_means r_sums r_takers r_takenSums r_order r_before r_roundSums r_carried c_samples c_palette c_has n_samples n_palette n_has f_thrown f_width f_height f_different f_groups f_rowSize f_ready f_size f_rounds f_samples f_palette f_has) → va_S A s.heap H locs → lv_has ls 3 [(0, .ref q_this), (2, .int v2)] → G H locs 0 0 (F0 m 55 ls [.int s0]) := by
    intro v2 s0 f_thrown hv H locs ls hP hD hS hl
    rw [eG]
    unfold vcMd_exact_55 at hv
    refine lv_istore_n (lv' := [(1, .int s0), (0, .ref q_this), (2, .int v2)]) hx hb dMd_exact_55 rfl hl (by decide) rfl (fun ls hl => ?_)
    refine lv_iinc (v := v2 + 1) (lv' := [(2, .int (v2 + 1)), (1, .int s0), (0, .ref q_this)]) hx hb dMd_exact_56 hl (k := 2) rfl rfl (by decide) rfl (fun ls hl => ?_)
    refine lv_goto (tgt := 8) hx hb dMd_exact_59 (by decide) ?_
    rw [eK8, eG] at hv
    exact hv _ _ _ hP hD hS (lv_sub hl [2, 1, 0] rfl)
  rw [eG] at j55
  unfold wpMd_exact at hw
  have hv := hw K8
  have hv := hv (by
    intro v1 v2 f_thrown hv
    rw [eK8]
    intro H locs ls hP hD hS hl
    rw [eG]
    unfold vcMd_exact_8 at hv
    refine lv_iload_n hx hb dMd_exact_8 rfl (lv_at hl 2 rfl) ?_
    refine lv_aload_n hx hb dMd_exact_9 rfl (lv_at hl 0 rfl) ?_
    refine va_get (D := (dC, dI)) (ci := 8) (v := .int f_width) (C := RMd) (T := TMd) (N := 31) hx hb hB hiMd hown hK hP 0 rfl rfl 1 (by decide) hL78 (fun _ h9 => h9) rfl dMd_exact_10 ?_
    refine lv_aload_n hx hb dMd_exact_13 rfl (lv_at hl 0 rfl) ?_
    refine va_get (D := (dC, dI)) (ci := 8) (v := .int f_height) (C := RMd) (T := TMd) (N := 31) hx hb hB hiMd hown hK hP 0 rfl rfl 2 (by decide) hL82 (fun _ h9 => h9) rfl dMd_exact_14 ?_
    refine lv_imul hx hb dMd_exact_17 ?_
    refine lv_icmp_ge (tgt := 62) hx hb dMd_exact_18 (by decide) (fun c_2 => ?_) (fun c_2 => ?_)
    · have hv := hv.1 c_2
      exact j62 v1 f_thrown hv _ _ _ hP hD hS (lv_sub hl [1] rfl)
    · have hv := hv.2 c_2
      refine lv_iload_n hx hb dMd_exact_21 rfl (lv_at hl 1 rfl) ?_
      refine lv_if_eq (tgt := 62) hx hb dMd_exact_22 (by decide) (fun c_3 => ?_) (fun c_3 => ?_)
      · have hv := hv.1 c_3
        exact j62 v1 f_thrown hv _ _ _ hP hD hS (lv_sub hl [1] rfl)
      · have hv := hv.2 c_3
        refine lv_aload_n hx hb dMd_exact_25 rfl (lv_at hl 0 rfl) ?_
        refine va_get (D := (dC, dI)) (ci := 8) (v := .ref q_palette) (C := RMd) (T := TMd) (N := 31) hx hb hB hiMd hown hK hP 0 rfl rfl 22 (by decide) hL54 (fun _ h9 => h9) rfl dMd_exact_26 ?_
        refine lv_iconst (v := 4) hx hb dMd_exact_29 (by decide) ?_
        refine lv_aload_n hx hb dMd_exact_30 rfl (lv_at hl 0 rfl) ?_
        refine va_get (D := (dC, dI)) (ci := 8) (v := .ref q_has) (C := RMd) (T := TMd) (N := 31) hx hb hB hiMd hown hK hP 0 rfl rfl 23 (by decide) hL57 (fun _ h9 => h9) rfl dMd_exact_31 ?_
        refine lv_iload_n hx hb dMd_exact_34 rfl (lv_at hl 2 rfl) ?_
        obtain ⟨h_4, hv⟩ := hv
        refine va_iald hx hb hK hP 3 2 rfl rfl h_4 dMd_exact_35 ?_
        refine lv_imul hx hb dMd_exact_36 ?_
        refine lv_aload_n hx hb dMd_exact_37 rfl (lv_at hl 0 rfl) ?_
        refine va_get (D := (dC, dI)) (ci := 8) (v := .ref q_samples) (C := RMd) (T := TMd) (N := 31) hx hb hB hiMd hown hK hP 0 rfl rfl 3 (by decide) hL7 (fun _ h9 => h9) rfl dMd_exact_38 ?_
        refine lv_iconst (v := 4) hx hb dMd_exact_41 (by decide) ?_
        refine lv_iload_n hx hb dMd_exact_42 rfl (lv_at hl 2 rfl) ?_
        refine lv_imul hx hb dMd_exact_43 ?_
        have hFc := va_free (wc := (wdMd_compare q_palette q_samples c_palette c_samples n_palette n_samples f_palette f_samples)) hD hS hA [2, 1] rfl
        refine gx_i (wr := [(q_this, .inr (8, [.int f_thrown, .int f_width, .int f_height, .ref q_samples, .ref r_isGiven, .ref r_gives, .int f_different, .ref r_colours, .ref r_many, .ref r_group, .int f_groups, .ref r_row, .int f_rowSize, .ref r_channelOf, .ref r_spreads, .ref r_boxMany, .ref r_there, .ref r_groupMany, .ref r_means, .ref r_sums, .int f_ready, .int f_size, .ref q_palette, .ref q_has, .ref r_takers, .ref r_takenSums, .ref r_order, .ref r_before, .int f_rounds, .ref r_roundSums, .ref r_carried])), (q_has, .inl (c_has, n_has, .inl f_has))]) (va_runS (As := [.ref q_palette, .int (4 * (f_has v2.toNatClampNeg)), .ref q_samples, .int (4 * v2)]) (rest := []) ⟨hx, hb, hml, hown, hB⟩ (metMd_compare l dC dI q_palette q_samples c_palette c_samples n_palette n_samples H.size f_palette f_samples (4 * (f_has v2.toNatClampNeg)) (4 * v2) hv) (va_cwS 4 hB (gx_gS bw722 bw723 bw53 bw724) rfl rfl rfl (by decide +kernel) ⟨(Nat.le_of_ble_eq_true rfl), (Nat.le_of_ble_eq_true rfl)⟩) (gx_preS (hP.sub (ws' := (wdMd_compare q_palette q_samples c_palette c_samples n_palette n_samples f_palette f_samples)) [2, 1] rfl) (hK.sub (tys' := [(c_palette, .int), (c_samples, .int)]) [1, 0] rfl) (hD.sub (ws' := (wdMd_compare q_palette q_samples c_palette c_samples n_palette n_samples f_palette f_samples)) [2, 1] (by decide) rfl) hZ hS hFc) rfl rfl hl.1 rfl (lv_room (Nat.le_of_ble_eq_true rfl)) dMd_exact_44 ⟨(Nat.le_of_ble_eq_true rfl), (Nat.le_of_ble_eq_true rfl)⟩) hP hD hS hFc [2, 1] [0, 3] rfl rfl (by decide) (by decide) (fun r_5 u_6 H locs hv hP hD hS => ?_)
        have hP : va_P (dC, dI) vwCl (wdMd_exact q_this q_samples q_palette q_has r_isGiven r_gives r_colours r_many r_group r_row r_channelOf r_spreads r_boxMany r_there r_groupMany r_means r_sums r_takers r_takenSums r_order r_before r_roundSums r_carried c_samples c_palette c_has n_samples n_palette n_has f_thrown f_width f_height f_different f_groups f_rowSize f_ready f_size f_rounds f_samples f_palette f_has) H := hP.sub [0, 3, 2, 1] rfl
        have hD : va_D A (wdMd_exact q_this q_samples q_palette q_has r_isGiven r_gives r_colours r_many r_group r_row r_channelOf r_spreads r_boxMany r_there r_groupMany r_means r_sums r_takers r_takenSums r_order r_before r_roundSums r_carried c_samples c_palette c_has n_samples n_palette n_has f_thrown f_width f_height f_different f_groups f_rowSize f_ready f_size f_rounds f_samples f_palette f_has) := hD.sub [0, 3, 2, 1] (by decide) rfl
        refine lv_if_ne (tgt := 54) hx hb dMd_exact_47 (by decide) (fun c_7 => ?_) (fun c_7 => ?_)
        · have hv := hv.1 c_7
          refine lv_iconst (v := 0) hx hb dMd_exact_54 (by decide) ?_
          exact j55 v2 0 f_thrown hv _ _ _ hP hD hS (lv_sub hl [0, 2] rfl)
        · have hv := hv.2 c_7
          refine lv_iconst (v := 1) hx hb dMd_exact_50 (by decide) ?_
          refine lv_goto (tgt := 55) hx hb dMd_exact_51 (by decide) ?_
          exact j55 v2 1 f_thrown hv _ _ _ hP hD hS (lv_sub hl [0, 2] rfl))
  rw [eG]
  refine lv_aload_n hx hb dMd_exact_0 rfl (lv_at hl 0 rfl) ?_
  refine lv_iconst (v := 1) hx hb dMd_exact_1 (by decide) ?_
  have hFc := va_free (wc := (wdMd_tells q_this q_samples r_isGiven r_gives r_colours r_many r_group r_row r_channelOf r_spreads r_boxMany r_there r_groupMany r_means r_sums q_palette q_has r_takers r_takenSums r_order r_before r_roundSums r_carried f_thrown f_width f_height f_different f_groups f_rowSize f_ready f_size f_rounds)) hD hS hA [0] rfl
  refine gx_i (wr := [(q_samples, .inl (c_samples, n_samples, .inl f_samples)), (q_palette, .inl (c_palette, n_palette, .inl f_palette)), (q_has, .inl (c_has, n_has, .inl f_has))]) (va_runV (As := [.int 1]) (rest := []) ⟨hx, hb, hml, hown, hB⟩ (metMd_tells l dC dI q_this q_samples r_isGiven r_gives r_colours r_many r_group r_row r_channelOf r_spreads r_boxMany r_there r_groupMany r_means r_sums q_palette q_has r_takers r_takenSums r_order r_before r_roundSums r_carried s.heap.size f_thrown f_width f_height f_different f_groups f_rowSize f_ready f_size f_rounds 1 hv) (cwV 1 hB (gx_gV bw772 bw773 bw41 bw53 bw774) rfl rfl rfl (by decide +kernel) ⟨(Nat.le_of_ble_eq_true rfl), (Nat.le_of_ble_eq_true rfl)⟩) (gx_preV (ci := 8) (hP.sub (ws' := (wdMd_tells q_this q_samples r_isGiven r_gives r_colours r_many r_group r_row r_channelOf r_spreads r_boxMany r_there r_groupMany r_means r_sums q_palette q_has r_takers r_takenSums r_order r_before r_roundSums r_carried f_thrown f_width f_height f_different f_groups f_rowSize f_ready f_size f_rounds)) [0] rfl) (hK.sub (tys' := []) [] rfl) (hD.sub (ws' := (wdMd_tells q_this q_samples r_isGiven r_gives r_colours r_many r_group r_row r_channelOf r_spreads r_boxMany r_there r_groupMany r_means r_sums q_palette q_has r_takers r_takenSums r_order r_before r_roundSums r_carried f_thrown f_width f_height f_different f_groups f_rowSize f_ready f_size f_rounds)) [0] (by decide) rfl) hZ hS hFc rfl rfl) rfl rfl hl.1 rfl (lv_room (Nat.le_of_ble_eq_true rfl)) dMd_exact_2 ⟨(Nat.le_of_ble_eq_true rfl), (Nat.le_of_ble_eq_true rfl)⟩) hP hD hS hFc [0] [1, 2, 3] rfl rfl (by decide) (by decide) (fun r_9 u_10 H locs hv hP hD hS => ?_)
  obtain ⟨f_thrown_8, rfl⟩ : ∃ z, z = u_10 := ⟨_, rfl⟩
  have hP : va_P (dC, dI) vwCl (wdMd_exact q_this q_samples q_palette q_has r_isGiven r_gives r_colours r_many r_group r_row r_channelOf r_spreads r_boxMany r_there r_groupMany r_means r_sums r_takers r_takenSums r_order r_before r_roundSums r_carried c_samples c_palette c_has n_samples n_palette n_has f_thrown_8 f_width f_height f_different f_groups f_rowSize f_ready f_size f_rounds f_samples f_palette f_has) H := hP.sub [3, 0, 1, 2] rfl
  have hD : va_D A (wdMd_exact q_this q_samples q_palette q_has r_isGiven r_gives r_colours r_many r_group r_row r_channelOf r_spreads r_boxMany r_there r_groupMany r_means r_sums r_takers r_takenSums r_order r_before r_roundSums r_carried c_samples c_palette c_has n_samples n_palette n_has f_thrown_8 f_width f_height f_different f_groups f_rowSize f_ready f_size f_rounds f_samples f_palette f_has) := hD.sub [3, 0, 1, 2] (by decide) rfl
  refine lv_istore_n (lv' := [(1, .int r_9), (0, .ref q_this)]) hx hb dMd_exact_5 rfl hl (by decide) rfl (fun ls hl => ?_)
  refine lv_iconst (v := 0) hx hb dMd_exact_6 (by decide) ?_
  refine lv_istore_n (lv' := [(2, .int 0), (1, .int r_9), (0, .ref q_this)]) hx hb dMd_exact_7 rfl hl (by decide) rfl (fun ls hl => ?_)
  rw [eK8, eG] at hv
  exact hv _ _ _ hP hD hS (lv_sub hl [2, 1, 0] rfl)
