abbrev wdMd_cut (q_this q_colours q_many q_group q_row q_channelOf r_samples r_isGiven r_gives r_spreads r_boxMany r_there r_groupMany r_means r_sums r_palette r_has r_takers r_takenSums r_order r_before r_roundSums r_carried : Nat) (c_colours c_many c_group c_row c_channelOf : ClassId) (n_colours n_many n_group n_row n_channelOf : Nat) (f_thrown : Int32) (f_width : Int32) (f_height : Int32) (f_different : Int32) (f_groups : Int32) (f_rowSize : Int32) (f_ready : Int32) (f_size : Int32) (f_rounds : Int32) (f_colours : Nat → Int32) (f_many : Nat → Int32) (f_group : Nat → Int32) (f_row : Nat → Int32) (f_channelOf : Nat → Int32) : va_W := [(q_this, .inr (8, [.int f_thrown, .int f_width, .int f_height, .ref r_samples, .ref r_isGiven, .ref r_gives, .int f_different, .ref q_colours, .ref q_many, .ref q_group, .int f_groups, .ref q_row, .int f_rowSize, .ref q_channelOf, .ref r_spreads, .ref r_boxMany, .ref r_there, .ref r_groupMany, .ref r_means, .ref r_sums, .int f_ready, .int f_size, .ref r_palette, .ref r_has, .ref r_takers, .ref r_takenSums, .ref r_order, .ref r_before, .int f_rounds, .ref r_roundSums, .ref r_carried])), (q_colours, .inl (c_colours, n_colours, .inl f_colours)), (q_many, .inl (c_many, n_many, .inl f_many)), (q_group, .inl (c_group, n_group, .inl f_group)), (q_row, .inl (c_row, n_row, .inl f_row)), (q_channelOf, .inl (c_channelOf, n_channelOf, .inl f_channelOf))]
set_option maxHeartbeats 4000000 in
set_option maxRecDepth 100000 in
theorem metMd_cut (l : Launch) (dC : Nat → ClassId) (dI : Nat → Nat → Nat) (q_this q_colours q_many q_group q_row q_channelOf r_samples r_isGiven r_gives r_spreads r_boxMany r_there r_groupMany r_means r_sums r_palette r_has r_takers r_takenSums r_order r_before r_roundSums r_carried : Nat) (c_colours c_many c_group c_row c_channelOf : ClassId) (n_colours n_many n_group n_row n_channelOf : Nat) (sz : Nat) (f_thrown : Int32) (f_width : Int32) (f_height : Int32) (f_different : Int32) (f_groups : Int32) (f_rowSize : Int32) (f_ready : Int32) (f_size : Int32) (f_rounds : Int32) (f_colours : Nat → Int32) (f_many : Nat → Int32) (f_group : Nat → Int32) (f_row : Nat → Int32) (f_channelOf : Nat → Int32) (x1 : Int32) {post : Int32 → Int32 → (Nat → Int32) → (Nat → Int32) → Prop} (hw : wpMd_cut n_colours n_many n_group n_row n_channelOf f_thrown f_width f_height f_different f_groups f_rowSize f_ready f_size f_rounds f_colours f_many f_group f_row f_channelOf x1 post) : Met l yMd_cut (.code yMd_cut bMd_cut 7 none :: BIG) ({ frames := 1, cells := 0, slots := 0, locals := 23 }) (va_Pc [.ref q_this, .int x1] (gx_pre (dC, dI) vwCl (wdMd_cut q_this q_colours q_many q_group q_row q_channelOf r_samples r_isGiven r_gives r_spreads r_boxMany r_there r_groupMany r_means r_sums r_palette r_has r_takers r_takenSums r_order r_before r_roundSums r_carried c_colours c_many c_group c_row c_channelOf n_colours n_many n_group n_row n_channelOf f_thrown f_width f_height f_different f_groups f_rowSize f_ready f_size f_rounds f_colours f_many f_group f_row f_channelOf) [(c_colours, .int), (c_many, .int), (c_group, .int), (c_row, .int), (c_channelOf, .int)] sz)) (va_Qv (fun (u : Int32 × Int32 × (Nat → Int32) × (Nat → Int32)) => post u.1 u.2.1 u.2.2.1 u.2.2.2) (gx_B (dC, dI) vwCl (va_A (wdMd_cut q_this q_colours q_many q_group q_row q_channelOf r_samples r_isGiven r_gives r_spreads r_boxMany r_there r_groupMany r_means r_sums r_palette r_has r_takers r_takenSums r_order r_before r_roundSums r_carried c_colours c_many c_group c_row c_channelOf n_colours n_many n_group n_row n_channelOf f_thrown f_width f_height f_different f_groups f_rowSize f_ready f_size f_rounds f_colours f_many f_group f_row f_channelOf) sz) (fun (u : Int32 × Int32 × (Nat → Int32) × (Nat → Int32)) => (wdMd_cut q_this q_colours q_many q_group q_row q_channelOf r_samples r_isGiven r_gives r_spreads r_boxMany r_there r_groupMany r_means r_sums r_palette r_has r_takers r_takenSums r_order r_before r_roundSums r_carried c_colours c_many c_group c_row c_channelOf n_colours n_many n_group n_row n_channelOf f_thrown f_width f_height f_different u.1 u.2.1 f_ready f_size f_rounds f_colours f_many u.2.2.1 u.2.2.2 f_channelOf))) (va_A (wdMd_cut q_this q_colours q_many q_group q_row q_channelOf r_samples r_isGiven r_gives r_spreads r_boxMany r_there r_groupMany r_means r_sums r_palette r_has r_takers r_takenSums r_order r_before r_roundSums r_carried c_colours c_many c_group c_row c_channelOf n_colours n_many n_group n_row n_channelOf f_thrown f_width f_height f_different f_groups f_rowSize f_ready f_size f_rounds f_colours f_many f_group f_row f_channelOf) sz)) 0 0 (va_A (wdMd_cut q_this q_colours q_many q_group q_row q_channelOf r_samples r_isGiven r_gives r_spreads r_boxMany r_there r_groupMany r_means r_sums r_palette r_has r_takers r_takenSums r_order r_before r_roundSums r_carried c_colours c_many c_group c_row c_channelOf n_colours n_many n_group n_row n_channelOf f_thrown f_width f_height f_different f_groups f_rowSize f_ready f_size f_rounds f_colours f_many f_group f_row f_channelOf) sz) := by
  refine Met.ofW (cc := bMd_cut) (maxL := 7) (ret := none) (by decide) rfl ?_
  intro p e s m args below meth c s₁ B hml hv
  obtain ⟨rfl, hsz, hP, hK, hD0, hZ⟩ := hv
  have hx := B.exec
  have hb := B.bytes
  have hr := B.returns
  have hts := atoms_spec (ws := (.code yMd_cut bMd_cut 7 none :: BIG)) B.pre
  have hB : ∀ w ∈ BIG, w.before _ s = true := fun w h => hts w (List.mem_cons_of_mem _ h)
  have hown : s.vm.findClass RMd = some m.cls := findClass_of_methodNamed B.named
  have hlocks := B.notSynchronized
  subst hsz
  have hD := hD0.self (sz := s.heap.size)
  generalize hAe : va_A (wdMd_cut q_this q_colours q_many q_group q_row q_channelOf r_samples r_isGiven r_gives r_spreads r_boxMany r_there r_groupMany r_means r_sums r_palette r_has r_takers r_takenSums r_order r_before r_roundSums r_carried c_colours c_many c_group c_row c_channelOf n_colours n_many n_group n_row n_channelOf f_thrown f_width f_height f_different f_groups f_rowSize f_ready f_size f_rounds f_colours f_many f_group f_row f_channelOf) s.heap.size = A at hD hZ ⊢
  have hA : ∀ q : Nat, s.heap.size ≤ q → A q := fun q h => by rw [← hAe]; exact Or.inr h
  have hS : va_S A s.heap s.heap [] := va_S.rf
  have hl := lv_entry ([.ref q_this, .int x1]) (n := 7) (Nat.le_of_ble_eq_true rfl)
  rw [lg_entry_eq]
  generalize (lg_sl ([.ref q_this, .int x1]) ++ List.replicate (7 - (lg_sl ([.ref q_this, .int x1])).length) Slot.unset).toArray = ls at hl ⊢
  have hl : lv_has ls 7 [(0, .ref q_this), (1, .int x1)] := hl
  have hL20 := (hB _ bw622)
  have hL23 := (hB _ bw623)
  have hL26 := (hB _ bw624)
  have hL29 := (hB _ bw626)
  have hL32 := (hB _ bw628)
  have hL108 := (hB _ bw621)
  have hL123 := (hB _ bw627)
  have hL130 := (hB _ bw625)
  refine gx_abs (fun G eG => ?_)
  obtain ⟨K14, eK14⟩ : ∃ K : Int32 → Int32 → Int32 → Int32 → (Nat → Int32) → (Nat → Int32) → Prop, K = fun v2 v3 f_groups f_rowSize f_group f_row => ∀ (H : Heap) (locs : List Loc) (ls : Array Slot), va_P (dC, dI) vwCl (wdMd_cut q_this q_colours q_many q_group q_row q_channelOf r_samples r_isGiven r_gives r_spreads r_boxMany r_there r_groupMany r_means r_sums r_palette r_has r_takers r_takenSums r_order r_before r_roundSums r_carried c_colours c_many c_group c_row c_channelOf n_colours n_many n_group n_row n_channelOf f_thrown f_width f_height f_different f_groups f_rowSize f_ready f_size f_rounds f_colours f_many f_group f_row f_channelOf) H → va_D A (wdMd_cut q_this q_colours q_many q_group q_row q_channelOf r_samples r_isGiven r_gives r_spreads r_boxMany r_there r_groupMany r_means r_sums r_palette r_has r_takers r_takenSums r_order r_before r_roundSums r_carried c_colours c_many c_group c_row c_channelOf n_colours n_many n_group n_row n_channelOf f_thrown f_width f_height f_different f_groups f_rowSize f_ready f_size f_rounds f_colours f_many f_group f_row f_channelOf) → va_S A s.heap H locs → lv_has ls 7 [(0, .ref q_this), (1, .int x1), (2, .int v2), (3, .int v3)] → G H locs 0 0 (F0 m 14 ls []) := ⟨_, rfl⟩
  obtain ⟨K38, eK38⟩ : ∃ K : Int32 → Int32 → Int32 → Int32 → Int32 → (Nat → Int32) → (Nat → Int32) → Prop, K = fun v2 v3 v4 f_groups f_rowSize f_group f_row => ∀ (H : Heap) (locs : List Loc) (ls : Array Slot), va_P (dC, dI) vwCl (wdMd_cut q_this q_colours q_many q_group q_row q_channelOf r_samples r_isGiven r_gives r_spreads r_boxMany r_there r_groupMany r_means r_sums r_palette r_has r_takers r_takenSums r_order r_before r_roundSums r_carried c_colours c_many c_group c_row c_channelOf n_colours n_many n_group n_row n_channelOf f_thrown f_width f_height f_different f_groups f_rowSize f_ready f_size f_rounds f_colours f_many f_group f_row f_channelOf) H → va_D A (wdMd_cut q_this q_colours q_many q_group q_row q_channelOf r_samples r_isGiven r_gives r_spreads r_boxMany r_there r_groupMany r_means r_sums r_palette r_has r_takers r_takenSums r_order r_before r_roundSums r_carried c_colours c_many c_group c_row c_channelOf n_colours n_many n_group n_row n_channelOf f_thrown f_width f_height f_different f_groups f_rowSize f_ready f_size f_rounds f_colours f_many f_group f_row f_channelOf) → va_S A s.heap H locs → lv_has ls 7 [(0, .ref q_this), (1, .int x1), (2, .int v2), (3, .int v3), (4, .int v4)] → G H locs 0 0 (F0 m 38 ls []) := ⟨_, rfl⟩
  obtain ⟨K140, eK140⟩ : ∃ K : Int32 → Int32 → Int32 → Int32 → Int32 → Int32 → (Nat → Int32) → (Nat → Int32) → Prop, K = fun v3 v4 v5 v6 f_groups f_rowSize f_group f_row => ∀ (H : Heap) (locs : List Loc) (ls : Array Slot), va_P (dC, dI) vwCl (wdMd_cut q_this q_colours q_many q_group q_row q_channelOf r_samples r_isGiven r_gives r_spreads r_boxMany r_there r_groupMany r_means r_sums r_palette r_has r_takers r_takenSums r_order r_before r_roundSums r_carried c_colours c_many c_group c_row c_channelOf n_colours n_many n_group n_row n_channelOf f_thrown f_width f_height f_different f_groups f_rowSize f_ready f_size f_rounds f_colours f_many f_group f_row f_channelOf) H → va_D A (wdMd_cut q_this q_colours q_many q_group q_row q_channelOf r_samples r_isGiven r_gives r_spreads r_boxMany r_there r_groupMany r_means r_sums r_palette r_has r_takers r_takenSums r_order r_before r_roundSums r_carried c_colours c_many c_group c_row c_channelOf n_colours n_many n_group n_row n_channelOf f_thrown f_width f_height f_different f_groups f_rowSize f_ready f_size f_rounds f_colours f_many f_group f_row f_channelOf) → va_S A s.heap H locs → lv_has ls 7 [(0, .ref q_this), (3, .int v3), (4, .int v4), (5, .int v5), (6, .int v6)] → G H locs 0 0 (F0 m 140 ls []) := ⟨_, rfl⟩
  have j212 : ∀ (v3 : Int32) (v4 : Int32) (v5 : Int32) (s0 : Int32) (f_groups : Int32) (f_rowSize : Int32) (f_group : Nat → Int32) (f_row : Nat → Int32), vcMd_cut_212 n_colours n_many n_group n_row n_channelOf f_thrown f_width f_height f_different f_ready f_size f_rounds f_colours f_many f_channelOf x1 K14 K38 K140 post v3 v4 v5 s0 f_groups f_rowSize f_group f_row → ∀ (H : Heap) (locs : List Loc) (ls : Array Slot), va_P (dC, dI) vwCl (wdMd_cut q_this q_colours q_many q_group q_row q_channelOf r_samples r_isGiven r_gives r_spreads r_boxMany r_there r_groupMany r_means r_sums r_palette r_has r_takers r_takenSums r_order r_before r_roundSums r_carried c_colours c_many c_group c_row c_channelOf n_colours n_many n_group n_row n_channelOf f_thrown f_width f_height f_different f_groups f_rowSize f_ready f_size f_rounds f_colours f_many f_group f_row f_channelOf) H → va_D A (wdMd_cut q_this q_colours q_many q_group q_row q_channelOf r_samples r_isGiven r_gives r_spreads r_boxMany r_there r_groupMany r_means r_sums r_palette r_has r_takers r_takenSums r_order r_before r_roundSums r_carried c_colours c_many c_group c_row c_channelOf n_colours n_many n_group n_row n_channelOf f_thrown f_width f_height f_different f_groups f_rowSize f_ready f_size f_rounds f_colours f_many f_group f_row f_channelOf) → va_S A s.heap H locs → lv_has ls 7 [(0, .ref q_this), (3, .int v3), (4, .int v4), (5, .int v5)] → G H locs 0 0 (F0 m 212 ls [.int s0]) := by
    intro v3 v4 v5 s0 f_groups f_rowSize f_group f_row hv H locs ls hP hD hS hl
    rw [eG]
    unfold vcMd_cut_212 at hv
    refine lv_istore (lv' := [(6, .int s0), (0, .ref q_this), (3, .int v3), (4, .int v4), (5, .int v5)]) hx hb dMd_cut_212 hl (by decide) rfl (fun ls hl => ?_)
    refine lv_goto (tgt := 140) hx hb dMd_cut_214 (by decide) ?_
    rw [eK140, eG] at hv
    exact hv _ _ _ hP hD hS (lv_sub hl [1, 2, 3, 4, 0] rfl)
  rw [eG] at j212
  have j211 : ∀ (v3 : Int32) (v4 : Int32) (v5 : Int32) (f_groups : Int32) (f_rowSize : Int32) (f_group : Nat → Int32) (f_row : Nat → Int32), vcMd_cut_211 n_colours n_many n_group n_row n_channelOf f_thrown f_width f_height f_different f_ready f_size f_rounds f_colours f_many f_channelOf x1 K14 K38 K140 post v3 v4 v5 f_groups f_rowSize f_group f_row → ∀ (H : Heap) (locs : List Loc) (ls : Array Slot), va_P (dC, dI) vwCl (wdMd_cut q_this q_colours q_many q_group q_row q_channelOf r_samples r_isGiven r_gives r_spreads r_boxMany r_there r_groupMany r_means r_sums r_palette r_has r_takers r_takenSums r_order r_before r_roundSums r_carried c_colours c_many c_group c_row c_channelOf n_colours n_many n_group n_row n_channelOf f_thrown f_width f_height f_different f_groups f_rowSize f_ready f_size f_rounds f_colours f_many f_group f_row f_channelOf) H → va_D A (wdMd_cut q_this q_colours q_many q_group q_row q_channelOf r_samples r_isGiven r_gives r_spreads r_boxMany r_there r_groupMany r_means r_sums r_palette r_has r_takers r_takenSums r_order r_before r_roundSums r_carried c_colours c_many c_group c_row c_channelOf n_colours n_many n_group n_row n_channelOf f_thrown f_width f_height f_different f_groups f_rowSize f_ready f_size f_rounds f_colours f_many f_group f_row f_channelOf) → va_S A s.heap H locs → lv_has ls 7 [(0, .ref q_this), (3, .int v3), (4, .int v4), (5, .int v5)] → G H locs 0 0 (F0 m 211 ls []) := by
    intro v3 v4 v5 f_groups f_rowSize f_group f_row hv H locs ls hP hD hS hl
    rw [eG]
    unfold vcMd_cut_211 at hv
    refine lv_iconst (v := 0) hx hb dMd_cut_211 (by decide) ?_
    exact j212 v3 v4 v5 0 f_groups f_rowSize f_group f_row hv _ _ _ hP hD hS (lv_sub hl [0, 1, 2, 3] rfl)
  rw [eG] at j211
  have j114 : ∀ (v2 : Int32) (v3 : Int32) (f_groups : Int32) (f_rowSize : Int32) (f_group : Nat → Int32) (f_row : Nat → Int32), vcMd_cut_114 n_colours n_many n_group n_row n_channelOf f_thrown f_width f_height f_different f_ready f_size f_rounds f_colours f_many f_channelOf x1 K14 K38 K140 post v2 v3 f_groups f_rowSize f_group f_row → ∀ (H : Heap) (locs : List Loc) (ls : Array Slot), va_P (dC, dI) vwCl (wdMd_cut q_this q_colours q_many q_group q_row q_channelOf r_samples r_isGiven r_gives r_spreads r_boxMany r_there r_groupMany r_means r_sums r_palette r_has r_takers r_takenSums r_order r_before r_roundSums r_carried c_colours c_many c_group c_row c_channelOf n_colours n_many n_group n_row n_channelOf f_thrown f_width f_height f_different f_groups f_rowSize f_ready f_size f_rounds f_colours f_many f_group f_row f_channelOf) H → va_D A (wdMd_cut q_this q_colours q_many q_group q_row q_channelOf r_samples r_isGiven r_gives r_spreads r_boxMany r_there r_groupMany r_means r_sums r_palette r_has r_takers r_takenSums r_order r_before r_roundSums r_carried c_colours c_many c_group c_row c_channelOf n_colours n_many n_group n_row n_channelOf f_thrown f_width f_height f_different f_groups f_rowSize f_ready f_size f_rounds f_colours f_many f_group f_row f_channelOf) → va_S A s.heap H locs → lv_has ls 7 [(0, .ref q_this), (1, .int x1), (2, .int v2), (3, .int v3)] → G H locs 0 0 (F0 m 114 ls []) := by
    intro v2 v3 f_groups f_rowSize f_group f_row hv H locs ls hP hD hS hl
    rw [eG]
    unfold vcMd_cut_114 at hv
    refine lv_iinc (v := v3 + 1) (lv' := [(3, .int (v3 + 1)), (0, .ref q_this), (1, .int x1), (2, .int v2)]) hx hb dMd_cut_114 hl (k := 3) rfl rfl (by decide) rfl (fun ls hl => ?_)
    refine lv_goto (tgt := 14) hx hb dMd_cut_117 (by decide) ?_
    rw [eK14, eG] at hv
    exact hv _ _ _ hP hD hS (lv_sub hl [1, 2, 3, 0] rfl)
  rw [eG] at j114
  have j96 : ∀ (v2 : Int32) (v3 : Int32) (v4 : Int32) (f_groups : Int32) (f_rowSize : Int32) (f_group : Nat → Int32) (f_row : Nat → Int32), vcMd_cut_96 n_colours n_many n_group n_row n_channelOf f_thrown f_width f_height f_different f_ready f_size f_rounds f_colours f_many f_channelOf x1 K14 K38 K140 post v2 v3 v4 f_groups f_rowSize f_group f_row → ∀ (H : Heap) (locs : List Loc) (ls : Array Slot), va_P (dC, dI) vwCl (wdMd_cut q_this q_colours q_many q_group q_row q_channelOf r_samples r_isGiven r_gives r_spreads r_boxMany r_there r_groupMany r_means r_sums r_palette r_has r_takers r_takenSums r_order r_before r_roundSums r_carried c_colours c_many c_group c_row c_channelOf n_colours n_many n_group n_row n_channelOf f_thrown f_width f_height f_different f_groups f_rowSize f_ready f_size f_rounds f_colours f_many f_group f_row f_channelOf) H → va_D A (wdMd_cut q_this q_colours q_many q_group q_row q_channelOf r_samples r_isGiven r_gives r_spreads r_boxMany r_there r_groupMany r_means r_sums r_palette r_has r_takers r_takenSums r_order r_before r_roundSums r_carried c_colours c_many c_group c_row c_channelOf n_colours n_many n_group n_row n_channelOf f_thrown f_width f_height f_different f_groups f_rowSize f_ready f_size f_rounds f_colours f_many f_group f_row f_channelOf) → va_S A s.heap H locs → lv_has ls 7 [(0, .ref q_this), (1, .int x1), (2, .int v2), (3, .int v3), (4, .int v4)] → G H locs 0 0 (F0 m 96 ls []) := by
    intro v2 v3 v4 f_groups f_rowSize f_group f_row hv H locs ls hP hD hS hl
    rw [eG]
    unfold vcMd_cut_96 at hv
    refine lv_aload_n hx hb dMd_cut_96 rfl (lv_at hl 0 rfl) ?_
    refine va_get (D := (dC, dI)) (ci := 8) (v := .ref q_row) (C := RMd) (T := TMd) (N := 31) hx hb hB hiMd hown hK hP 0 rfl rfl 11 (by decide) hL29 (fun _ h9 => h9) rfl dMd_cut_97 ?_
    refine lv_iload hx hb dMd_cut_100 (lv_at hl 4 rfl) ?_
    refine lv_iload_n hx hb dMd_cut_102 rfl (lv_at hl 3 rfl) ?_
    obtain ⟨h_1, hv⟩ := hv
    refine va_iast hx hb hK hP hD hS 4 3 rfl rfl h_1 dMd_cut_103 (fun H locs hP hD hS => ?_)
    have hP : va_P (dC, dI) vwCl (wdMd_cut q_this q_colours q_many q_group q_row q_channelOf r_samples r_isGiven r_gives r_spreads r_boxMany r_there r_groupMany r_means r_sums r_palette r_has r_takers r_takenSums r_order r_before r_roundSums r_carried c_colours c_many c_group c_row c_channelOf n_colours n_many n_group n_row n_channelOf f_thrown f_width f_height f_different f_groups f_rowSize f_ready f_size f_rounds f_colours f_many f_group (upd f_row v4.toNatClampNeg v3) f_channelOf) H := hP
    have hD : va_D A (wdMd_cut q_this q_colours q_many q_group q_row q_channelOf r_samples r_isGiven r_gives r_spreads r_boxMany r_there r_groupMany r_means r_sums r_palette r_has r_takers r_takenSums r_order r_before r_roundSums r_carried c_colours c_many c_group c_row c_channelOf n_colours n_many n_group n_row n_channelOf f_thrown f_width f_height f_different f_groups f_rowSize f_ready f_size f_rounds f_colours f_many f_group (upd f_row v4.toNatClampNeg v3) f_channelOf) := hD
    refine lv_aload_n hx hb dMd_cut_104 rfl (lv_at hl 0 rfl) ?_
    refine lv_dup hx hb dMd_cut_105 rfl ?_
    refine va_get (D := (dC, dI)) (ci := 8) (v := .int f_rowSize) (C := RMd) (T := TMd) (N := 31) hx hb hB hiMd hown hK hP 0 rfl rfl 12 (by decide) hL123 (fun _ h9 => h9) rfl dMd_cut_106 ?_
    refine lv_iconst (v := 1) hx hb dMd_cut_109 (by decide) ?_
    refine lv_iadd hx hb dMd_cut_110 ?_
    refine lv_topi (fun w_3 ew_3 => ?_)
    have hv := hv w_3 ew_3
    refine va_put (D := (dC, dI)) (ci := 8) (v := .int w_3) (ty := .int) (C := RMd) (T := TMd) (N := 31) hx hb hB hiMd tMd tMd_ok nMd hown hK hP hD hS 0 rfl rfl 12 (by decide) hL123 (fun _ h9 => h9) rfl (by decide +kernel) rfl rfl (Nat.le_of_ble_eq_true rfl) dMd_cut_111 (fun H locs hP hD hS => ?_)
    have hP : va_P (dC, dI) vwCl (wdMd_cut q_this q_colours q_many q_group q_row q_channelOf r_samples r_isGiven r_gives r_spreads r_boxMany r_there r_groupMany r_means r_sums r_palette r_has r_takers r_takenSums r_order r_before r_roundSums r_carried c_colours c_many c_group c_row c_channelOf n_colours n_many n_group n_row n_channelOf f_thrown f_width f_height f_different f_groups w_3 f_ready f_size f_rounds f_colours f_many f_group (upd f_row v4.toNatClampNeg v3) f_channelOf) H := hP
    have hD : va_D A (wdMd_cut q_this q_colours q_many q_group q_row q_channelOf r_samples r_isGiven r_gives r_spreads r_boxMany r_there r_groupMany r_means r_sums r_palette r_has r_takers r_takenSums r_order r_before r_roundSums r_carried c_colours c_many c_group c_row c_channelOf n_colours n_many n_group n_row n_channelOf f_thrown f_width f_height f_different f_groups w_3 f_ready f_size f_rounds f_colours f_many f_group (upd f_row v4.toNatClampNeg v3) f_channelOf) := hD
    exact j114 v2 v3 f_groups w_3 f_group (upd f_row v4.toNatClampNeg v3) hv _ _ _ hP hD hS (lv_sub hl [0, 1, 2, 3] rfl)
  rw [eG] at j96
  unfold wpMd_cut at hw
  have hv := hw K14 K38 K140
  have hv := hv (by
    intro v2 v3 f_groups f_rowSize f_group f_row hv
    rw [eK14]
    intro H locs ls hP hD hS hl
    rw [eG]
    unfold vcMd_cut_14 at hv
    refine lv_iload_n hx hb dMd_cut_14 rfl (lv_at hl 3 rfl) ?_
    refine lv_aload_n hx hb dMd_cut_15 rfl (lv_at hl 0 rfl) ?_
    refine va_get (D := (dC, dI)) (ci := 8) (v := .int f_different) (C := RMd) (T := TMd) (N := 31) hx hb hB hiMd hown hK hP 0 rfl rfl 6 (by decide) hL108 (fun _ h9 => h9) rfl dMd_cut_16 ?_
    refine lv_icmp_ge (tgt := 120) hx hb dMd_cut_19 (by decide) (fun c_4 => ?_) (fun c_4 => ?_)
    · have hv := hv.1 c_4
      refine lv_aload_n hx hb dMd_cut_120 rfl (lv_at hl 0 rfl) ?_
      refine lv_iload_n hx hb dMd_cut_121 rfl (lv_at hl 1 rfl) ?_
      refine gx_ri (va_runV (As := [.int x1]) (rest := []) ⟨hx, hb, hml, hown, hB⟩ (metMd_samplesOf l dC dI q_this q_many q_group r_samples r_isGiven r_gives q_colours q_row q_channelOf r_spreads r_boxMany r_there r_groupMany r_means r_sums r_palette r_has r_takers r_takenSums r_order r_before r_roundSums r_carried c_many c_group n_many n_group H.size f_thrown f_width f_height f_different f_groups f_rowSize f_ready f_size f_rounds f_many f_group x1 hv) (cwV 1 hB (gx_gV bw737 bw738 bw32 bw53 bw739) rfl rfl rfl (by decide +kernel) ⟨(Nat.le_of_ble_eq_true rfl), (Nat.le_of_ble_eq_true rfl)⟩) (gx_rpreV (ci := 8) (hP.sub (ws' := (wdMd_samplesOf q_this q_many q_group r_samples r_isGiven r_gives q_colours q_row q_channelOf r_spreads r_boxMany r_there r_groupMany r_means r_sums r_palette r_has r_takers r_takenSums r_order r_before r_roundSums r_carried c_many c_group n_many n_group f_thrown f_width f_height f_different f_groups f_rowSize f_ready f_size f_rounds f_many f_group)) [0, 2, 3] rfl) (hK.sub (tys' := [(c_many, .int), (c_group, .int)]) [1, 2] rfl) hZ hS hA rfl rfl) rfl rfl hl.1 rfl (lv_room (Nat.le_of_ble_eq_true rfl)) dMd_cut_122 ⟨(Nat.le_of_ble_eq_true rfl), (Nat.le_of_ble_eq_true rfl)⟩) hP hS hA (fun r_5 H locs hv hP hS => ?_)
      refine lv_istore_n (lv' := [(3, .int r_5), (0, .ref q_this), (1, .int x1), (2, .int v2)]) hx hb dMd_cut_125 rfl hl (by decide) rfl (fun ls hl => ?_)
      refine lv_iload_n hx hb dMd_cut_126 rfl (lv_at hl 0 rfl) ?_
      refine lv_istore (lv' := [(4, .int r_5), (3, .int r_5), (0, .ref q_this), (1, .int x1), (2, .int v2)]) hx hb dMd_cut_127 hl (by decide) rfl (fun ls hl => ?_)
      refine lv_aload_n hx hb dMd_cut_129 rfl (lv_at hl 2 rfl) ?_
      refine va_get (D := (dC, dI)) (ci := 8) (v := .int f_rowSize) (C := RMd) (T := TMd) (N := 31) hx hb hB hiMd hown hK hP 0 rfl rfl 12 (by decide) hL123 (fun _ h9 => h9) rfl dMd_cut_130 ?_
      refine lv_iconst (v := 1) hx hb dMd_cut_133 (by decide) ?_
      refine lv_isub hx hb dMd_cut_134 ?_
      refine lv_topi (fun v5_7 ev5_7 => ?_)
      have hv := hv v5_7 ev5_7
      refine lv_istore (lv' := [(5, .int v5_7), (4, .int r_5), (3, .int r_5), (0, .ref q_this), (1, .int x1), (2, .int v2)]) hx hb dMd_cut_135 hl (by decide) rfl (fun ls hl => ?_)
      refine lv_iconst (v := 1) hx hb dMd_cut_137 (by decide) ?_
      refine lv_istore (lv' := [(6, .int 1), (5, .int v5_7), (4, .int r_5), (3, .int r_5), (0, .ref q_this), (1, .int x1), (2, .int v2)]) hx hb dMd_cut_138 hl (by decide) rfl (fun ls hl => ?_)
      rw [eK140, eG] at hv
      exact hv _ _ _ hP hD hS (lv_sub hl [4, 3, 2, 1, 0] rfl)
    · have hv := hv.2 c_4
      refine lv_aload_n hx hb dMd_cut_22 rfl (lv_at hl 0 rfl) ?_
      refine va_get (D := (dC, dI)) (ci := 8) (v := .ref q_group) (C := RMd) (T := TMd) (N := 31) hx hb hB hiMd hown hK hP 0 rfl rfl 9 (by decide) hL26 (fun _ h9 => h9) rfl dMd_cut_23 ?_
      refine lv_iload_n hx hb dMd_cut_26 rfl (lv_at hl 3 rfl) ?_
      obtain ⟨h_8, hv⟩ := hv
      refine va_iald hx hb hK hP 3 2 rfl rfl h_8 dMd_cut_27 ?_
      refine lv_iload_n hx hb dMd_cut_28 rfl (lv_at hl 1 rfl) ?_
      refine lv_icmp_ne (tgt := 114) hx hb dMd_cut_29 (by decide) (fun c_9 => ?_) (fun c_9 => ?_)
      · have hv := hv.1 c_9
        exact j114 v2 v3 f_groups f_rowSize f_group f_row hv _ _ _ hP hD hS (lv_sub hl [0, 1, 2, 3] rfl)
      · have hv := hv.2 c_9
        refine lv_aload_n hx hb dMd_cut_32 rfl (lv_at hl 0 rfl) ?_
        refine va_get (D := (dC, dI)) (ci := 8) (v := .int f_rowSize) (C := RMd) (T := TMd) (N := 31) hx hb hB hiMd hown hK hP 0 rfl rfl 12 (by decide) hL123 (fun _ h9 => h9) rfl dMd_cut_33 ?_
        refine lv_istore (lv' := [(4, .int f_rowSize), (0, .ref q_this), (1, .int x1), (2, .int v2), (3, .int v3)]) hx hb dMd_cut_36 hl (by decide) rfl (fun ls hl => ?_)
        rw [eK38, eG] at hv
        exact hv _ _ _ hP hD hS (lv_sub hl [1, 2, 3, 4, 0] rfl))
  have hv := hv (by
    intro v2 v3 v4 f_groups f_rowSize f_group f_row hv
    rw [eK38]
    intro H locs ls hP hD hS hl
    rw [eG]
    unfold vcMd_cut_38 at hv
    refine lv_iload hx hb dMd_cut_38 (lv_at hl 4 rfl) ?_
    refine lv_if_le (tgt := 96) hx hb dMd_cut_40 (by decide) (fun c_10 => ?_) (fun c_10 => ?_)
    · have hv := hv.1 c_10
      exact j96 v2 v3 v4 f_groups f_rowSize f_group f_row hv _ _ _ hP hD hS (lv_sub hl [0, 1, 2, 3, 4] rfl)
    · have hv := hv.2 c_10
      refine lv_aload_n hx hb dMd_cut_43 rfl (lv_at hl 0 rfl) ?_
      refine va_get (D := (dC, dI)) (ci := 8) (v := .ref q_colours) (C := RMd) (T := TMd) (N := 31) hx hb hB hiMd hown hK hP 0 rfl rfl 7 (by decide) hL20 (fun _ h9 => h9) rfl dMd_cut_44 ?_
      refine lv_iconst (v := 4) hx hb dMd_cut_47 (by decide) ?_
      refine lv_aload_n hx hb dMd_cut_48 rfl (lv_at hl 0 rfl) ?_
      refine va_get (D := (dC, dI)) (ci := 8) (v := .ref q_row) (C := RMd) (T := TMd) (N := 31) hx hb hB hiMd hown hK hP 0 rfl rfl 11 (by decide) hL29 (fun _ h9 => h9) rfl dMd_cut_49 ?_
      refine lv_iload hx hb dMd_cut_52 (lv_at hl 4 rfl) ?_
      refine lv_iconst (v := 1) hx hb dMd_cut_54 (by decide) ?_
      refine lv_isub hx hb dMd_cut_55 ?_
      obtain ⟨h_11, hv⟩ := hv
      refine va_iald hx hb hK hP 4 3 rfl rfl h_11 dMd_cut_56 ?_
      refine lv_imul hx hb dMd_cut_57 ?_
      refine lv_iload_n hx hb dMd_cut_58 rfl (lv_at hl 2 rfl) ?_
      refine lv_iadd hx hb dMd_cut_59 ?_
      obtain ⟨h_12, hv⟩ := hv
      refine va_iald hx hb hK hP 1 0 rfl rfl h_12 dMd_cut_60 ?_
      refine lv_aload_n hx hb dMd_cut_61 rfl (lv_at hl 0 rfl) ?_
      refine va_get (D := (dC, dI)) (ci := 8) (v := .ref q_colours) (C := RMd) (T := TMd) (N := 31) hx hb hB hiMd hown hK hP 0 rfl rfl 7 (by decide) hL20 (fun _ h9 => h9) rfl dMd_cut_62 ?_
      refine lv_iconst (v := 4) hx hb dMd_cut_65 (by decide) ?_
      refine lv_iload_n hx hb dMd_cut_66 rfl (lv_at hl 3 rfl) ?_
      refine lv_imul hx hb dMd_cut_67 ?_
      refine lv_iload_n hx hb dMd_cut_68 rfl (lv_at hl 2 rfl) ?_
      refine lv_iadd hx hb dMd_cut_69 ?_
      obtain ⟨h_13, hv⟩ := hv
      refine va_iald hx hb hK hP 1 0 rfl rfl h_13 dMd_cut_70 ?_
      refine lv_icmp_le (tgt := 96) hx hb dMd_cut_71 (by decide) (fun c_14 => ?_) (fun c_14 => ?_)
      · have hv := hv.1 c_14
        exact j96 v2 v3 v4 f_groups f_rowSize f_group f_row hv _ _ _ hP hD hS (lv_sub hl [0, 1, 2, 3, 4] rfl)
      · have hv := hv.2 c_14
        refine lv_aload_n hx hb dMd_cut_74 rfl (lv_at hl 0 rfl) ?_
        refine va_get (D := (dC, dI)) (ci := 8) (v := .ref q_row) (C := RMd) (T := TMd) (N := 31) hx hb hB hiMd hown hK hP 0 rfl rfl 11 (by decide) hL29 (fun _ h9 => h9) rfl dMd_cut_75 ?_
        refine lv_iload hx hb dMd_cut_78 (lv_at hl 4 rfl) ?_
        refine lv_aload_n hx hb dMd_cut_80 rfl (lv_at hl 0 rfl) ?_
        refine va_get (D := (dC, dI)) (ci := 8) (v := .ref q_row) (C := RMd) (T := TMd) (N := 31) hx hb hB hiMd hown hK hP 0 rfl rfl 11 (by decide) hL29 (fun _ h9 => h9) rfl dMd_cut_81 ?_
        refine lv_iload hx hb dMd_cut_84 (lv_at hl 4 rfl) ?_
        refine lv_iconst (v := 1) hx hb dMd_cut_86 (by decide) ?_
        refine lv_isub hx hb dMd_cut_87 ?_
        obtain ⟨h_15, hv⟩ := hv
        refine va_iald hx hb hK hP 4 3 rfl rfl h_15 dMd_cut_88 ?_
        obtain ⟨h_16, hv⟩ := hv
        refine va_iast hx hb hK hP hD hS 4 3 rfl rfl h_16 dMd_cut_89 (fun H locs hP hD hS => ?_)
        have hP : va_P (dC, dI) vwCl (wdMd_cut q_this q_colours q_many q_group q_row q_channelOf r_samples r_isGiven r_gives r_spreads r_boxMany r_there r_groupMany r_means r_sums r_palette r_has r_takers r_takenSums r_order r_before r_roundSums r_carried c_colours c_many c_group c_row c_channelOf n_colours n_many n_group n_row n_channelOf f_thrown f_width f_height f_different f_groups f_rowSize f_ready f_size f_rounds f_colours f_many f_group (upd f_row v4.toNatClampNeg (f_row (v4 - 1).toNatClampNeg)) f_channelOf) H := hP
        have hD : va_D A (wdMd_cut q_this q_colours q_many q_group q_row q_channelOf r_samples r_isGiven r_gives r_spreads r_boxMany r_there r_groupMany r_means r_sums r_palette r_has r_takers r_takenSums r_order r_before r_roundSums r_carried c_colours c_many c_group c_row c_channelOf n_colours n_many n_group n_row n_channelOf f_thrown f_width f_height f_different f_groups f_rowSize f_ready f_size f_rounds f_colours f_many f_group (upd f_row v4.toNatClampNeg (f_row (v4 - 1).toNatClampNeg)) f_channelOf) := hD
        refine lv_iinc (v := v4 + (-1)) (lv' := [(4, .int (v4 + (-1))), (0, .ref q_this), (1, .int x1), (2, .int v2), (3, .int v3)]) hx hb dMd_cut_90 hl (k := 4) rfl rfl (by decide) rfl (fun ls hl => ?_)
        refine lv_goto (tgt := 38) hx hb dMd_cut_93 (by decide) ?_
        rw [eK38, eG] at hv
        exact hv _ _ _ hP hD hS (lv_sub hl [1, 2, 3, 4, 0] rfl))
  have hv := hv (by
    intro v3 v4 v5 v6 f_groups f_rowSize f_group f_row hv
    rw [eK140]
    intro H locs ls hP hD hS hl
    rw [eG]
    unfold vcMd_cut_140 at hv
    refine lv_iload hx hb dMd_cut_140 (lv_at hl 4 rfl) ?_
    refine lv_if_eq (tgt := 217) hx hb dMd_cut_142 (by decide) (fun c_18 => ?_) (fun c_18 => ?_)
    · have hv := hv.1 c_18
      refine lv_aload_n hx hb dMd_cut_217 rfl (lv_at hl 0 rfl) ?_
      refine lv_dup hx hb dMd_cut_218 rfl ?_
      refine va_get (D := (dC, dI)) (ci := 8) (v := .int f_groups) (C := RMd) (T := TMd) (N := 31) hx hb hB hiMd hown hK hP 0 rfl rfl 10 (by decide) hL130 (fun _ h9 => h9) rfl dMd_cut_219 ?_
      refine lv_iconst (v := 1) hx hb dMd_cut_222 (by decide) ?_
      refine lv_iadd hx hb dMd_cut_223 ?_
      refine lv_topi (fun w_19 ew_19 => ?_)
      have hv := hv w_19 ew_19
      refine va_put (D := (dC, dI)) (ci := 8) (v := .int w_19) (ty := .int) (C := RMd) (T := TMd) (N := 31) hx hb hB hiMd tMd tMd_ok nMd hown hK hP hD hS 0 rfl rfl 10 (by decide) hL130 (fun _ h9 => h9) rfl (by decide +kernel) rfl rfl (Nat.le_of_ble_eq_true rfl) dMd_cut_224 (fun H locs hP hD hS => ?_)
      have hP : va_P (dC, dI) vwCl (wdMd_cut q_this q_colours q_many q_group q_row q_channelOf r_samples r_isGiven r_gives r_spreads r_boxMany r_there r_groupMany r_means r_sums r_palette r_has r_takers r_takenSums r_order r_before r_roundSums r_carried c_colours c_many c_group c_row c_channelOf n_colours n_many n_group n_row n_channelOf f_thrown f_width f_height f_different w_19 f_rowSize f_ready f_size f_rounds f_colours f_many f_group f_row f_channelOf) H := hP
      have hD : va_D A (wdMd_cut q_this q_colours q_many q_group q_row q_channelOf r_samples r_isGiven r_gives r_spreads r_boxMany r_there r_groupMany r_means r_sums r_palette r_has r_takers r_takenSums r_order r_before r_roundSums r_carried c_colours c_many c_group c_row c_channelOf n_colours n_many n_group n_row n_channelOf f_thrown f_width f_height f_different w_19 f_rowSize f_ready f_size f_rounds f_colours f_many f_group f_row f_channelOf) := hD
      exact W.vret hx hb hr (fun t ht hW => ⟨⟨(w_19, f_rowSize, f_group, f_row), rfl, hv, by rw [ht]; exact hP, hD⟩, hS.F ht⟩) hS.2.2 dMd_cut_227
    · have hv := hv.2 c_18
      refine lv_iload hx hb dMd_cut_145 (lv_at hl 2 rfl) ?_
      refine lv_aload_n hx hb dMd_cut_147 rfl (lv_at hl 0 rfl) ?_
      refine va_get (D := (dC, dI)) (ci := 8) (v := .ref q_many) (C := RMd) (T := TMd) (N := 31) hx hb hB hiMd hown hK hP 0 rfl rfl 8 (by decide) hL23 (fun _ h9 => h9) rfl dMd_cut_148 ?_
      refine lv_aload_n hx hb dMd_cut_151 rfl (lv_at hl 0 rfl) ?_
      refine va_get (D := (dC, dI)) (ci := 8) (v := .ref q_row) (C := RMd) (T := TMd) (N := 31) hx hb hB hiMd hown hK hP 0 rfl rfl 11 (by decide) hL29 (fun _ h9 => h9) rfl dMd_cut_152 ?_
      refine lv_iload hx hb dMd_cut_155 (lv_at hl 3 rfl) ?_
      obtain ⟨h_20, hv⟩ := hv
      refine va_iald hx hb hK hP 4 3 rfl rfl h_20 dMd_cut_157 ?_
      obtain ⟨h_21, hv⟩ := hv
      refine va_iald hx hb hK hP 2 1 rfl rfl h_21 dMd_cut_158 ?_
      refine lv_isub hx hb dMd_cut_159 ?_
      refine lv_topi (fun v4_22 ev4_22 => ?_)
      have hv := hv v4_22 ev4_22
      refine lv_istore (lv' := [(4, .int v4_22), (0, .ref q_this), (3, .int v3), (5, .int v5), (6, .int v6)]) hx hb dMd_cut_160 hl (by decide) rfl (fun ls hl => ?_)
      refine lv_aload_n hx hb dMd_cut_162 rfl (lv_at hl 1 rfl) ?_
      refine va_get (D := (dC, dI)) (ci := 8) (v := .ref q_group) (C := RMd) (T := TMd) (N := 31) hx hb hB hiMd hown hK hP 0 rfl rfl 9 (by decide) hL26 (fun _ h9 => h9) rfl dMd_cut_163 ?_
      refine lv_aload_n hx hb dMd_cut_166 rfl (lv_at hl 1 rfl) ?_
      refine va_get (D := (dC, dI)) (ci := 8) (v := .ref q_row) (C := RMd) (T := TMd) (N := 31) hx hb hB hiMd hown hK hP 0 rfl rfl 11 (by decide) hL29 (fun _ h9 => h9) rfl dMd_cut_167 ?_
      refine lv_iload hx hb dMd_cut_170 (lv_at hl 3 rfl) ?_
      obtain ⟨h_23, hv⟩ := hv
      refine va_iald hx hb hK hP 4 3 rfl rfl h_23 dMd_cut_172 ?_
      refine lv_aload_n hx hb dMd_cut_173 rfl (lv_at hl 1 rfl) ?_
      refine va_get (D := (dC, dI)) (ci := 8) (v := .int f_groups) (C := RMd) (T := TMd) (N := 31) hx hb hB hiMd hown hK hP 0 rfl rfl 10 (by decide) hL130 (fun _ h9 => h9) rfl dMd_cut_174 ?_
      obtain ⟨h_24, hv⟩ := hv
      refine va_iast hx hb hK hP hD hS 3 2 rfl rfl h_24 dMd_cut_177 (fun H locs hP hD hS => ?_)
      have hP : va_P (dC, dI) vwCl (wdMd_cut q_this q_colours q_many q_group q_row q_channelOf r_samples r_isGiven r_gives r_spreads r_boxMany r_there r_groupMany r_means r_sums r_palette r_has r_takers r_takenSums r_order r_before r_roundSums r_carried c_colours c_many c_group c_row c_channelOf n_colours n_many n_group n_row n_channelOf f_thrown f_width f_height f_different f_groups f_rowSize f_ready f_size f_rounds f_colours f_many (upd f_group (f_row v5.toNatClampNeg).toNatClampNeg f_groups) f_row f_channelOf) H := hP
      have hD : va_D A (wdMd_cut q_this q_colours q_many q_group q_row q_channelOf r_samples r_isGiven r_gives r_spreads r_boxMany r_there r_groupMany r_means r_sums r_palette r_has r_takers r_takenSums r_order r_before r_roundSums r_carried c_colours c_many c_group c_row c_channelOf n_colours n_many n_group n_row n_channelOf f_thrown f_width f_height f_different f_groups f_rowSize f_ready f_size f_rounds f_colours f_many (upd f_group (f_row v5.toNatClampNeg).toNatClampNeg f_groups) f_row f_channelOf) := hD
      refine lv_iinc (v := v5 + (-1)) (lv' := [(5, .int (v5 + (-1))), (4, .int v4_22), (0, .ref q_this), (3, .int v3), (6, .int v6)]) hx hb dMd_cut_178 hl (k := 3) rfl rfl (by decide) rfl (fun ls hl => ?_)
      refine lv_iload hx hb dMd_cut_181 (lv_at hl 0 rfl) ?_
      refine lv_if_le (tgt := 211) hx hb dMd_cut_183 (by decide) (fun c_26 => ?_) (fun c_26 => ?_)
      · have hv := hv.1 c_26
        exact j211 v3 v4_22 (v5 + (-1)) f_groups f_rowSize (upd f_group (f_row v5.toNatClampNeg).toNatClampNeg f_groups) f_row hv _ _ _ hP hD hS (lv_sub hl [2, 3, 1, 0] rfl)
      · have hv := hv.2 c_26
        refine lv_iconst (v := 2) hx hb dMd_cut_186 (by decide) ?_
        refine lv_iload hx hb dMd_cut_187 (lv_at hl 1 rfl) ?_
        refine lv_aload_n hx hb dMd_cut_189 rfl (lv_at hl 2 rfl) ?_
        refine va_get (D := (dC, dI)) (ci := 8) (v := .ref q_many) (C := RMd) (T := TMd) (N := 31) hx hb hB hiMd hown hK hP 0 rfl rfl 8 (by decide) hL23 (fun _ h9 => h9) rfl dMd_cut_190 ?_
        refine lv_aload_n hx hb dMd_cut_193 rfl (lv_at hl 2 rfl) ?_
        refine va_get (D := (dC, dI)) (ci := 8) (v := .ref q_row) (C := RMd) (T := TMd) (N := 31) hx hb hB hiMd hown hK hP 0 rfl rfl 11 (by decide) hL29 (fun _ h9 => h9) rfl dMd_cut_194 ?_
        refine lv_iload hx hb dMd_cut_197 (lv_at hl 0 rfl) ?_
        obtain ⟨h_27, hv⟩ := hv
        refine va_iald hx hb hK hP 4 3 rfl rfl h_27 dMd_cut_199 ?_
        obtain ⟨h_28, hv⟩ := hv
        refine va_iald hx hb hK hP 2 1 rfl rfl h_28 dMd_cut_200 ?_
        refine lv_isub hx hb dMd_cut_201 ?_
        refine lv_imul hx hb dMd_cut_202 ?_
        refine lv_iload_n hx hb dMd_cut_203 rfl (lv_at hl 3 rfl) ?_
        refine lv_icmp_lt (tgt := 211) hx hb dMd_cut_204 (by decide) (fun c_29 => ?_) (fun c_29 => ?_)
        · have hv := hv.1 c_29
          exact j211 v3 v4_22 (v5 + (-1)) f_groups f_rowSize (upd f_group (f_row v5.toNatClampNeg).toNatClampNeg f_groups) f_row hv _ _ _ hP hD hS (lv_sub hl [2, 3, 1, 0] rfl)
        · have hv := hv.2 c_29
          refine lv_iconst (v := 1) hx hb dMd_cut_207 (by decide) ?_
          refine lv_goto (tgt := 212) hx hb dMd_cut_208 (by decide) ?_
          exact j212 v3 v4_22 (v5 + (-1)) 1 f_groups f_rowSize (upd f_group (f_row v5.toNatClampNeg).toNatClampNeg f_groups) f_row hv _ _ _ hP hD hS (lv_sub hl [2, 3, 1, 0] rfl))
  rw [eG]
  refine lv_aload_n hx hb dMd_cut_0 rfl (lv_at hl 0 rfl) ?_
  refine va_get (D := (dC, dI)) (ci := 8) (v := .ref q_channelOf) (C := RMd) (T := TMd) (N := 31) hx hb hB hiMd hown hK hP 0 rfl rfl 13 (by decide) hL32 (fun _ h9 => h9) rfl dMd_cut_1 ?_
  refine lv_iload_n hx hb dMd_cut_4 rfl (lv_at hl 1 rfl) ?_
  obtain ⟨h_30, hv⟩ := hv
  refine va_iald hx hb hK hP 5 4 rfl rfl h_30 dMd_cut_5 ?_
  refine lv_topi (fun v2_31 ev2_31 => ?_)
  have hv := hv v2_31 ev2_31
  refine lv_istore_n (lv' := [(2, .int v2_31), (0, .ref q_this), (1, .int x1)]) hx hb dMd_cut_6 rfl hl (by decide) rfl (fun ls hl => ?_)
  refine lv_aload_n hx hb dMd_cut_7 rfl (lv_at hl 1 rfl) ?_
  refine lv_iconst (v := 0) hx hb dMd_cut_8 (by decide) ?_
  refine va_put (D := (dC, dI)) (ci := 8) (v := .int 0) (ty := .int) (C := RMd) (T := TMd) (N := 31) hx hb hB hiMd tMd tMd_ok nMd hown hK hP hD hS 0 rfl rfl 12 (by decide) hL123 (fun _ h9 => h9) rfl (by decide +kernel) rfl rfl (Nat.le_of_ble_eq_true rfl) dMd_cut_9 (fun H locs hP hD hS => ?_)
  have hP : va_P (dC, dI) vwCl (wdMd_cut q_this q_colours q_many q_group q_row q_channelOf r_samples r_isGiven r_gives r_spreads r_boxMany r_there r_groupMany r_means r_sums r_palette r_has r_takers r_takenSums r_order r_before r_roundSums r_carried c_colours c_many c_group c_row c_channelOf n_colours n_many n_group n_row n_channelOf f_thrown f_width f_height f_different f_groups 0 f_ready f_size f_rounds f_colours f_many f_group f_row f_channelOf) H := hP
  have hD : va_D A (wdMd_cut q_this q_colours q_many q_group q_row q_channelOf r_samples r_isGiven r_gives r_spreads r_boxMany r_there r_groupMany r_means r_sums r_palette r_has r_takers r_takenSums r_order r_before r_roundSums r_carried c_colours c_many c_group c_row c_channelOf n_colours n_many n_group n_row n_channelOf f_thrown f_width f_height f_different f_groups 0 f_ready f_size f_rounds f_colours f_many f_group f_row f_channelOf) := hD
  refine lv_iconst (v := 0) hx hb dMd_cut_12 (by decide) ?_
  refine lv_istore_n (lv' := [(3, .int 0), (2, .int v2_31), (0, .ref q_this), (1, .int x1)]) hx hb dMd_cut_13 rfl hl (by decide) rfl (fun ls hl => ?_)
  rw [eK14, eG] at hv
  exact hv _ _ _ hP hD hS (lv_sub hl [2, 3, 1, 0] rfl)
abbrev wdMd_look (q_this q_colours q_many q_group q_channelOf q_spreads q_boxMany r_samples r_isGiven r_gives r_row r_there r_groupMany r_means r_sums r_palette r_has r_takers r_takenSums r_order r_before r_roundSums r_carried : Nat) (c_colours c_many c_group c_channelOf c_spreads c_boxMany : ClassId) (n_colours n_many n_group n_channelOf n_spreads n_boxMany : Nat) (f_thrown : Int32) (f_width : Int32) (f_height : Int32) (f_different : Int32) (f_groups : Int32) (f_rowSize : Int32) (f_ready : Int32) (f_size : Int32) (f_rounds : Int32) (f_colours : Nat → Int32) (f_many : Nat → Int32) (f_group : Nat → Int32) (f_channelOf : Nat → Int32) (f_spreads : Nat → Int32) (f_boxMany : Nat → Int32) : va_W := [(q_this, .inr (8, [.int f_thrown, .int f_width, .int f_height, .ref r_samples, .ref r_isGiven, .ref r_gives, .int f_different, .ref q_colours, .ref q_many, .ref q_group, .int f_groups, .ref r_row, .int f_rowSize, .ref q_channelOf, .ref q_spreads, .ref q_boxMany, .ref r_there, .ref r_groupMany, .ref r_means, .ref r_sums, .int f_ready, .int f_size, .ref r_palette, .ref r_has, .ref r_takers, .ref r_takenSums, .ref r_order, .ref r_before, .int f_rounds, .ref r_roundSums, .ref r_carried])), (q_colours, .inl (c_colours, n_colours, .inl f_colours)), (q_many, .inl (c_many, n_many, .inl f_many)), (q_group, .inl (c_group, n_group, .inl f_group)), (q_channelOf, .inl (c_channelOf, n_channelOf, .inl f_channelOf)), (q_spreads, .inl (c_spreads, n_spreads, .inl f_spreads)), (q_boxMany, .inl (c_boxMany, n_boxMany, .inl f_boxMany))]
set_option maxHeartbeats 4000000 in
set_option maxRecDepth 100000 in
theorem metMd_look (l : Launch) (dC : Nat → ClassId) (dI : Nat → Nat → Nat) (q_this q_colours q_many q_group q_channelOf q_spreads q_boxMany r_samples r_isGiven r_gives r_row r_there r_groupMany r_means r_sums r_palette r_has r_takers r_takenSums r_order r_before r_roundSums r_carried : Nat) (c_colours c_many c_group c_channelOf c_spreads c_boxMany : ClassId) (n_colours n_many n_group n_channelOf n_spreads n_boxMany : Nat) (sz : Nat) (f_thrown : Int32) (f_width : Int32) (f_height : Int32) (f_different : Int32) (f_groups : Int32) (f_rowSize : Int32) (f_ready : Int32) (f_size : Int32) (f_rounds : Int32) (f_colours : Nat → Int32) (f_many : Nat → Int32) (f_group : Nat → Int32) (f_channelOf : Nat → Int32) (f_spreads : Nat → Int32) (f_boxMany : Nat → Int32) (x1 : Int32) {post : (Nat → Int32) → (Nat → Int32) → (Nat → Int32) → Prop} (hw : wpMd_look n_colours n_many n_group n_channelOf n_spreads n_boxMany f_thrown f_width f_height f_different f_groups f_rowSize f_ready f_size f_rounds f_colours f_many f_group f_channelOf f_spreads f_boxMany x1 post) : Met l yMd_look (.code yMd_look bMd_look 2 none :: BIG) ({ frames := 2, cells := 0, slots := 0, locals := 50 }) (va_Pc [.ref q_this, .int x1] (gx_pre (dC, dI) vwCl (wdMd_look q_this q_colours q_many q_group q_channelOf q_spreads q_boxMany r_samples r_isGiven r_gives r_row r_there r_groupMany r_means r_sums r_palette r_has r_takers r_takenSums r_order r_before r_roundSums r_carried c_colours c_many c_group c_channelOf c_spreads c_boxMany n_colours n_many n_group n_channelOf n_spreads n_boxMany f_thrown f_width f_height f_different f_groups f_rowSize f_ready f_size f_rounds f_colours f_many f_group f_channelOf f_spreads f_boxMany) [(c_colours, .int), (c_many, .int), (c_group, .int), (c_channelOf, .int), (c_spreads, .int), (c_boxMany, .int)] sz)) (va_Qv (fun (u : (Nat → Int32) × (Nat → Int32) × (Nat → Int32)) => post u.1 u.2.1 u.2.2) (gx_B (dC, dI) vwCl (va_A (wdMd_look q_this q_colours q_many q_group q_channelOf q_spreads q_boxMany r_samples r_isGiven r_gives r_row r_there r_groupMany r_means r_sums r_palette r_has r_takers r_takenSums r_order r_before r_roundSums r_carried c_colours c_many c_group c_channelOf c_spreads c_boxMany n_colours n_many n_group n_channelOf n_spreads n_boxMany f_thrown f_width f_height f_different f_groups f_rowSize f_ready f_size f_rounds f_colours f_many f_group f_channelOf f_spreads f_boxMany) sz) (fun (u : (Nat → Int32) × (Nat → Int32) × (Nat → Int32)) => (wdMd_look q_this q_colours q_many q_group q_channelOf q_spreads q_boxMany r_samples r_isGiven r_gives r_row r_there r_groupMany r_means r_sums r_palette r_has r_takers r_takenSums r_order r_before r_roundSums r_carried c_colours c_many c_group c_channelOf c_spreads c_boxMany n_colours n_many n_group n_channelOf n_spreads n_boxMany f_thrown f_width f_height f_different f_groups f_rowSize f_ready f_size f_rounds f_colours f_many f_group u.1 u.2.1 u.2.2))) (va_A (wdMd_look q_this q_colours q_many q_group q_channelOf q_spreads q_boxMany r_samples r_isGiven r_gives r_row r_there r_groupMany r_means r_sums r_palette r_has r_takers r_takenSums r_order r_before r_roundSums r_carried c_colours c_many c_group c_channelOf c_spreads c_boxMany n_colours n_many n_group n_channelOf n_spreads n_boxMany f_thrown f_width f_height f_different f_groups f_rowSize f_ready f_size f_rounds f_colours f_many f_group f_channelOf f_spreads f_boxMany) sz)) 0 0 (va_A (wdMd_look q_this q_colours q_many q_group q_channelOf q_spreads q_boxMany r_samples r_isGiven r_gives r_row r_there r_groupMany r_means r_sums r_palette r_has r_takers r_takenSums r_order r_before r_roundSums r_carried c_colours c_many c_group c_channelOf c_spreads c_boxMany n_colours n_many n_group n_channelOf n_spreads n_boxMany f_thrown f_width f_height f_different f_groups f_rowSize f_ready f_size f_rounds f_colours f_many f_group f_channelOf f_spreads f_boxMany) sz) := by
  refine Met.ofW (cc := bMd_look) (maxL := 2) (ret := none) (by decide) rfl ?_
  intro p e s m args below meth c s₁ B hml hv
  obtain ⟨rfl, hsz, hP, hK, hD0, hZ⟩ := hv
  have hx := B.exec
  have hb := B.bytes
  have hr := B.returns
  have hts := atoms_spec (ws := (.code yMd_look bMd_look 2 none :: BIG)) B.pre
  have hB : ∀ w ∈ BIG, w.before _ s = true := fun w h => hts w (List.mem_cons_of_mem _ h)
  have hown : s.vm.findClass RMd = some m.cls := findClass_of_methodNamed B.named
  have hlocks := B.notSynchronized
  subst hsz
  have hD := hD0.self (sz := s.heap.size)
  generalize hAe : va_A (wdMd_look q_this q_colours q_many q_group q_channelOf q_spreads q_boxMany r_samples r_isGiven r_gives r_row r_there r_groupMany r_means r_sums r_palette r_has r_takers r_takenSums r_order r_before r_roundSums r_carried c_colours c_many c_group c_channelOf c_spreads c_boxMany n_colours n_many n_group n_channelOf n_spreads n_boxMany f_thrown f_width f_height f_different f_groups f_rowSize f_ready f_size f_rounds f_colours f_many f_group f_channelOf f_spreads f_boxMany) s.heap.size = A at hD hZ ⊢
  have hA : ∀ q : Nat, s.heap.size ≤ q → A q := fun q h => by rw [← hAe]; exact Or.inr h
  have hS : va_S A s.heap s.heap [] := va_S.rf
  have hl := lv_entry ([.ref q_this, .int x1]) (n := 2) (Nat.le_of_ble_eq_true rfl)
  rw [lg_entry_eq]
  generalize (lg_sl ([.ref q_this, .int x1]) ++ List.replicate (2 - (lg_sl ([.ref q_this, .int x1])).length) Slot.unset).toArray = ls at hl ⊢
  have hl : lv_has ls 2 [(0, .ref q_this), (1, .int x1)] := hl
  have hL35 := (hB _ bw629)
  have hL38 := (hB _ bw630)
  unfold wpMd_look at hw
  have hv := hw
  refine lv_aload_n hx hb dMd_look_0 rfl (lv_at hl 0 rfl) ?_
  refine va_get (D := (dC, dI)) (ci := 8) (v := .ref q_spreads) (C := RMd) (T := TMd) (N := 31) hx hb hB hiMd hown hK hP 0 rfl rfl 14 (by decide) hL35 (fun _ h9 => h9) rfl dMd_look_1 ?_
  refine lv_iload_n hx hb dMd_look_4 rfl (lv_at hl 1 rfl) ?_
  refine lv_aload_n hx hb dMd_look_5 rfl (lv_at hl 0 rfl) ?_
  refine lv_iload_n hx hb dMd_look_6 rfl (lv_at hl 1 rfl) ?_
  have hFc := va_free (wc := (wdMd_spread q_this q_colours q_group q_channelOf r_samples r_isGiven r_gives q_many r_row q_spreads q_boxMany r_there r_groupMany r_means r_sums r_palette r_has r_takers r_takenSums r_order r_before r_roundSums r_carried c_colours c_group c_channelOf n_colours n_group n_channelOf f_thrown f_width f_height f_different f_groups f_rowSize f_ready f_size f_rounds f_colours f_group f_channelOf)) hD hS hA [0, 1, 3, 4] rfl
  refine gx_i (wr := [(q_many, .inl (c_many, n_many, .inl f_many)), (q_spreads, .inl (c_spreads, n_spreads, .inl f_spreads)), (q_boxMany, .inl (c_boxMany, n_boxMany, .inl f_boxMany))]) (va_runV (As := [.int x1]) (rest := [.int x1, .ref q_spreads]) ⟨hx, hb, hml, hown, hB⟩ (metMd_spread l dC dI q_this q_colours q_group q_channelOf r_samples r_isGiven r_gives q_many r_row q_spreads q_boxMany r_there r_groupMany r_means r_sums r_palette r_has r_takers r_takenSums r_order r_before r_roundSums r_carried c_colours c_group c_channelOf n_colours n_group n_channelOf s.heap.size f_thrown f_width f_height f_different f_groups f_rowSize f_ready f_size f_rounds f_colours f_group f_channelOf x1 hv) (cwV 1 hB (gx_gV bw731 bw732 bw30 bw53 bw733) rfl rfl rfl (by decide +kernel) ⟨(Nat.le_of_ble_eq_true rfl), (Nat.le_of_ble_eq_true rfl)⟩) (gx_preV (ci := 8) (hP.sub (ws' := (wdMd_spread q_this q_colours q_group q_channelOf r_samples r_isGiven r_gives q_many r_row q_spreads q_boxMany r_there r_groupMany r_means r_sums r_palette r_has r_takers r_takenSums r_order r_before r_roundSums r_carried c_colours c_group c_channelOf n_colours n_group n_channelOf f_thrown f_width f_height f_different f_groups f_rowSize f_ready f_size f_rounds f_colours f_group f_channelOf)) [0, 1, 3, 4] rfl) (hK.sub (tys' := [(c_colours, .int), (c_group, .int), (c_channelOf, .int)]) [0, 2, 3] rfl) (hD.sub (ws' := (wdMd_spread q_this q_colours q_group q_channelOf r_samples r_isGiven r_gives q_many r_row q_spreads q_boxMany r_there r_groupMany r_means r_sums r_palette r_has r_takers r_takenSums r_order r_before r_roundSums r_carried c_colours c_group c_channelOf n_colours n_group n_channelOf f_thrown f_width f_height f_different f_groups f_rowSize f_ready f_size f_rounds f_colours f_group f_channelOf)) [0, 1, 3, 4] (by decide) rfl) hZ hS hFc rfl rfl) rfl rfl hl.1 rfl (lv_room (Nat.le_of_ble_eq_true rfl)) dMd_look_7 ⟨(Nat.le_of_ble_eq_true rfl), (Nat.le_of_ble_eq_true rfl)⟩) hP hD hS hFc [0, 1, 3, 4] [2, 5, 6] rfl rfl (by decide) (by decide) (fun r_2 u_3 H locs hv hP hD hS => ?_)
  obtain ⟨f_channelOf_1, rfl⟩ : ∃ z, z = u_3 := ⟨_, rfl⟩
  have hP : va_P (dC, dI) vwCl (wdMd_look q_this q_colours q_many q_group q_channelOf q_spreads q_boxMany r_samples r_isGiven r_gives r_row r_there r_groupMany r_means r_sums r_palette r_has r_takers r_takenSums r_order r_before r_roundSums r_carried c_colours c_many c_group c_channelOf c_spreads c_boxMany n_colours n_many n_group n_channelOf n_spreads n_boxMany f_thrown f_width f_height f_different f_groups f_rowSize f_ready f_size f_rounds f_colours f_many f_group f_channelOf_1 f_spreads f_boxMany) H := hP.sub [3, 4, 0, 5, 6, 1, 2] rfl
  have hD : va_D A (wdMd_look q_this q_colours q_many q_group q_channelOf q_spreads q_boxMany r_samples r_isGiven r_gives r_row r_there r_groupMany r_means r_sums r_palette r_has r_takers r_takenSums r_order r_before r_roundSums r_carried c_colours c_many c_group c_channelOf c_spreads c_boxMany n_colours n_many n_group n_channelOf n_spreads n_boxMany f_thrown f_width f_height f_different f_groups f_rowSize f_ready f_size f_rounds f_colours f_many f_group f_channelOf_1 f_spreads f_boxMany) := hD.sub [3, 4, 0, 5, 6, 1, 2] (by decide) rfl
  obtain ⟨h_4, hv⟩ := hv
  refine va_iast hx hb hK hP hD hS 5 4 rfl rfl h_4 dMd_look_10 (fun H locs hP hD hS => ?_)
  have hP : va_P (dC, dI) vwCl (wdMd_look q_this q_colours q_many q_group q_channelOf q_spreads q_boxMany r_samples r_isGiven r_gives r_row r_there r_groupMany r_means r_sums r_palette r_has r_takers r_takenSums r_order r_before r_roundSums r_carried c_colours c_many c_group c_channelOf c_spreads c_boxMany n_colours n_many n_group n_channelOf n_spreads n_boxMany f_thrown f_width f_height f_different f_groups f_rowSize f_ready f_size f_rounds f_colours f_many f_group f_channelOf_1 (upd f_spreads x1.toNatClampNeg r_2) f_boxMany) H := hP
  have hD : va_D A (wdMd_look q_this q_colours q_many q_group q_channelOf q_spreads q_boxMany r_samples r_isGiven r_gives r_row r_there r_groupMany r_means r_sums r_palette r_has r_takers r_takenSums r_order r_before r_roundSums r_carried c_colours c_many c_group c_channelOf c_spreads c_boxMany n_colours n_many n_group n_channelOf n_spreads n_boxMany f_thrown f_width f_height f_different f_groups f_rowSize f_ready f_size f_rounds f_colours f_many f_group f_channelOf_1 (upd f_spreads x1.toNatClampNeg r_2) f_boxMany) := hD
  refine lv_aload_n hx hb dMd_look_11 rfl (lv_at hl 0 rfl) ?_
  refine va_get (D := (dC, dI)) (ci := 8) (v := .ref q_boxMany) (C := RMd) (T := TMd) (N := 31) hx hb hB hiMd hown hK hP 0 rfl rfl 15 (by decide) hL38 (fun _ h9 => h9) rfl dMd_look_12 ?_
  refine lv_iload_n hx hb dMd_look_15 rfl (lv_at hl 1 rfl) ?_
  refine lv_aload_n hx hb dMd_look_16 rfl (lv_at hl 0 rfl) ?_
  refine lv_iload_n hx hb dMd_look_17 rfl (lv_at hl 1 rfl) ?_
  refine gx_ri (va_runV (As := [.int x1]) (rest := [.int x1, .ref q_boxMany]) ⟨hx, hb, hml, hown, hB⟩ (metMd_samplesOf l dC dI q_this q_many q_group r_samples r_isGiven r_gives q_colours r_row q_channelOf q_spreads q_boxMany r_there r_groupMany r_means r_sums r_palette r_has r_takers r_takenSums r_order r_before r_roundSums r_carried c_many c_group n_many n_group H.size f_thrown f_width f_height f_different f_groups f_rowSize f_ready f_size f_rounds f_many f_group x1 hv) (cwV 1 hB (gx_gV bw737 bw738 bw32 bw53 bw739) rfl rfl rfl (by decide +kernel) ⟨(Nat.le_of_ble_eq_true rfl), (Nat.le_of_ble_eq_true rfl)⟩) (gx_rpreV (ci := 8) (hP.sub (ws' := (wdMd_samplesOf q_this q_many q_group r_samples r_isGiven r_gives q_colours r_row q_channelOf q_spreads q_boxMany r_there r_groupMany r_means r_sums r_palette r_has r_takers r_takenSums r_order r_before r_roundSums r_carried c_many c_group n_many n_group f_thrown f_width f_height f_different f_groups f_rowSize f_ready f_size f_rounds f_many f_group)) [0, 2, 3] rfl) (hK.sub (tys' := [(c_many, .int), (c_group, .int)]) [1, 2] rfl) hZ hS hA rfl rfl) rfl rfl hl.1 rfl (lv_room (Nat.le_of_ble_eq_true rfl)) dMd_look_18 ⟨(Nat.le_of_ble_eq_true rfl), (Nat.le_of_ble_eq_true rfl)⟩) hP hS hA (fun r_6 H locs hv hP hS => ?_)
  obtain ⟨h_8, hv⟩ := hv
  refine va_iast hx hb hK hP hD hS 6 5 rfl rfl h_8 dMd_look_21 (fun H locs hP hD hS => ?_)
  have hP : va_P (dC, dI) vwCl (wdMd_look q_this q_colours q_many q_group q_channelOf q_spreads q_boxMany r_samples r_isGiven r_gives r_row r_there r_groupMany r_means r_sums r_palette r_has r_takers r_takenSums r_order r_before r_roundSums r_carried c_colours c_many c_group c_channelOf c_spreads c_boxMany n_colours n_many n_group n_channelOf n_spreads n_boxMany f_thrown f_width f_height f_different f_groups f_rowSize f_ready f_size f_rounds f_colours f_many f_group f_channelOf_1 (upd f_spreads x1.toNatClampNeg r_2) (upd f_boxMany x1.toNatClampNeg r_6)) H := hP
  have hD : va_D A (wdMd_look q_this q_colours q_many q_group q_channelOf q_spreads q_boxMany r_samples r_isGiven r_gives r_row r_there r_groupMany r_means r_sums r_palette r_has r_takers r_takenSums r_order r_before r_roundSums r_carried c_colours c_many c_group c_channelOf c_spreads c_boxMany n_colours n_many n_group n_channelOf n_spreads n_boxMany f_thrown f_width f_height f_different f_groups f_rowSize f_ready f_size f_rounds f_colours f_many f_group f_channelOf_1 (upd f_spreads x1.toNatClampNeg r_2) (upd f_boxMany x1.toNatClampNeg r_6)) := hD
  exact W.vret hx hb hr (fun t ht hW => ⟨⟨(f_channelOf_1, upd f_spreads x1.toNatClampNeg r_2, upd f_boxMany x1.toNatClampNeg r_6), rfl, hv, by rw [ht]; exact hP, hD⟩, hS.F ht⟩) hS.2.2 dMd_look_22
abbrev wdMd_makeBoxes (q_this q_colours q_many q_group q_row q_channelOf q_spreads q_boxMany r_samples r_isGiven r_gives r_there r_groupMany r_means r_sums r_palette r_has r_takers r_takenSums r_order r_before r_roundSums r_carried : Nat) (c_colours c_many c_group c_row c_channelOf c_spreads c_boxMany : ClassId) (n_colours n_many n_group n_row n_channelOf n_spreads n_boxMany : Nat) (f_thrown : Int32) (f_width : Int32) (f_height : Int32) (f_different : Int32) (f_groups : Int32) (f_rowSize : Int32) (f_ready : Int32) (f_size : Int32) (f_rounds : Int32) (f_colours : Nat → Int32) (f_many : Nat → Int32) (f_group : Nat → Int32) (f_row : Nat → Int32) (f_channelOf : Nat → Int32) (f_spreads : Nat → Int32) (f_boxMany : Nat → Int32) : va_W := [(q_this, .inr (8, [.int f_thrown, .int f_width, .int f_height, .ref r_samples, .ref r_isGiven, .ref r_gives, .int f_different, .ref q_colours, .ref q_many, .ref q_group, .int f_groups, .ref q_row, .int f_rowSize, .ref q_channelOf, .ref q_spreads, .ref q_boxMany, .ref r_there, .ref r_groupMany, .ref r_means, .ref r_sums, .int f_ready, .int f_size, .ref r_palette, .ref r_has, .ref r_takers, .ref r_takenSums, .ref r_order, .ref r_before, .int f_rounds, .ref r_roundSums, .ref r_carried])), (q_colours, .inl (c_colours, n_colours, .inl f_colours)), (q_many, .inl (c_many, n_many, .inl f_many)), (q_group, .inl (c_group, n_group, .inl f_group)), (q_row, .inl (c_row, n_row, .inl f_row)), (q_channelOf, .inl (c_channelOf, n_channelOf, .inl f_channelOf)), (q_spreads, .inl (c_spreads, n_spreads, .inl f_spreads)), (q_boxMany, .inl (c_boxMany, n_boxMany, .inl f_boxMany))]
set_option maxHeartbeats 4000000 in
set_option maxRecDepth 100000 in
theorem metMd_makeBoxes (l : Launch) (dC : Nat → ClassId) (dI : Nat → Nat → Nat) (q_this q_colours q_many q_group q_row q_channelOf q_spreads q_boxMany r_samples r_isGiven r_gives r_there r_groupMany r_means r_sums r_palette r_has r_takers r_takenSums r_order r_before r_roundSums r_carried : Nat) (c_colours c_many c_group c_row c_channelOf c_spreads c_boxMany : ClassId) (n_colours n_many n_group n_row n_channelOf n_spreads n_boxMany : Nat) (sz : Nat) (f_thrown : Int32) (f_width : Int32) (f_height : Int32) (f_different : Int32) (f_groups : Int32) (f_rowSize : Int32) (f_ready : Int32) (f_size : Int32) (f_rounds : Int32) (f_colours : Nat → Int32) (f_many : Nat → Int32) (f_group : Nat → Int32) (f_row : Nat → Int32) (f_channelOf : Nat → Int32) (f_spreads : Nat → Int32) (f_boxMany : Nat → Int32) (x1 : Int32) {post : Int32 → Int32 → (Nat → Int32) → (Nat → Int32) → (Nat → Int32) → (Nat → Int32) → (Nat → Int32) → Prop} (hw : wpMd_makeBoxes n_colours n_many n_group n_row n_channelOf n_spreads n_boxMany f_thrown f_width f_height f_different f_groups f_rowSize f_ready f_size f_rounds f_colours f_many f_group f_row f_channelOf f_spreads f_boxMany x1 post) : Met l yMd_makeBoxes (.code yMd_makeBoxes bMd_makeBoxes 4 none :: BIG) ({ frames := 3, cells := 0, slots := 0, locals := 71 }) (va_Pc [.ref q_this, .int x1] (gx_pre (dC, dI) vwCl (wdMd_makeBoxes q_this q_colours q_many q_group q_row q_channelOf q_spreads q_boxMany r_samples r_isGiven r_gives r_there r_groupMany r_means r_sums r_palette r_has r_takers r_takenSums r_order r_before r_roundSums r_carried c_colours c_many c_group c_row c_channelOf c_spreads c_boxMany n_colours n_many n_group n_row n_channelOf n_spreads n_boxMany f_thrown f_width f_height f_different f_groups f_rowSize f_ready f_size f_rounds f_colours f_many f_group f_row f_channelOf f_spreads f_boxMany) [(c_colours, .int), (c_many, .int), (c_group, .int), (c_row, .int), (c_channelOf, .int), (c_spreads, .int), (c_boxMany, .int)] sz)) (va_Qv (fun (u : Int32 × Int32 × (Nat → Int32) × (Nat → Int32) × (Nat → Int32) × (Nat → Int32) × (Nat → Int32)) => post u.1 u.2.1 u.2.2.1 u.2.2.2.1 u.2.2.2.2.1 u.2.2.2.2.2.1 u.2.2.2.2.2.2) (gx_B (dC, dI) vwCl (va_A (wdMd_makeBoxes q_this q_colours q_many q_group q_row q_channelOf q_spreads q_boxMany r_samples r_isGiven r_gives r_there r_groupMany r_means r_sums r_palette r_has r_takers r_takenSums r_order r_before r_roundSums r_carried c_colours c_many c_group c_row c_channelOf c_spreads c_boxMany n_colours n_many n_group n_row n_channelOf n_spreads n_boxMany f_thrown f_width f_height f_different f_groups f_rowSize f_ready f_size f_rounds f_colours f_many f_group f_row f_channelOf f_spreads f_boxMany) sz) (fun (u : Int32 × Int32 × (Nat → Int32) × (Nat → Int32) × (Nat → Int32) × (Nat → Int32) × (Nat → Int32)) => (wdMd_makeBoxes q_this q_colours q_many q_group q_row q_channelOf q_spreads q_boxMany r_samples r_isGiven r_gives r_there r_groupMany r_means r_sums r_palette r_has r_takers r_takenSums r_order r_before r_roundSums r_carried c_colours c_many c_group c_row c_channelOf c_spreads c_boxMany n_colours n_many n_group n_row n_channelOf n_spreads n_boxMany f_thrown f_width f_height f_different u.1 u.2.1 f_ready f_size f_rounds f_colours f_many u.2.2.1 u.2.2.2.1 u.2.2.2.2.1 u.2.2.2.2.2.1 u.2.2.2.2.2.2))) (va_A (wdMd_makeBoxes q_this q_colours q_many q_group q_row q_channelOf q_spreads q_boxMany r_samples r_isGiven r_gives r_there r_groupMany r_means r_sums r_palette r_has r_takers r_takenSums r_order r_before r_roundSums r_carried c_colours c_many c_group c_row c_channelOf c_spreads c_boxMany n_colours n_many n_group n_row n_channelOf n_spreads n_boxMany f_thrown f_width f_height f_different f_groups f_rowSize f_ready f_size f_rounds f_colours f_many f_group f_row f_channelOf f_spreads f_boxMany) sz)) 0 0 (va_A (wdMd_makeBoxes q_this q_colours q_many q_group q_row q_channelOf q_spreads q_boxMany r_samples r_isGiven r_gives r_there r_groupMany r_means r_sums r_palette r_has r_takers r_takenSums r_order r_before r_roundSums r_carried c_colours c_many c_group c_row c_channelOf c_spreads c_boxMany n_colours n_many n_group n_row n_channelOf n_spreads n_boxMany f_thrown f_width f_height f_different f_groups f_rowSize f_ready f_size f_rounds f_colours f_many f_group f_row f_channelOf f_spreads f_boxMany) sz) := by
  refine Met.ofW (cc := bMd_makeBoxes) (maxL := 4) (ret := none) (by decide) rfl ?_
  intro p e s m args below meth c s₁ B hml hv
  obtain ⟨rfl, hsz, hP, hK, hD0, hZ⟩ := hv
  have hx := B.exec
  have hb := B.bytes
  have hr := B.returns
  have hts := atoms_spec (ws := (.code yMd_makeBoxes bMd_makeBoxes 4 none :: BIG)) B.pre
  have hB : ∀ w ∈ BIG, w.before _ s = true := fun w h => hts w (List.mem_cons_of_mem _ h)
  have hown : s.vm.findClass RMd = some m.cls := findClass_of_methodNamed B.named
  have hlocks := B.notSynchronized
  subst hsz
  have hD := hD0.self (sz := s.heap.size)
  generalize hAe : va_A (wdMd_makeBoxes q_this q_colours q_many q_group q_row q_channelOf q_spreads q_boxMany r_samples r_isGiven r_gives r_there r_groupMany r_means r_sums r_palette r_has r_takers r_takenSums r_order r_before r_roundSums r_carried c_colours c_many c_group c_row c_channelOf c_spreads c_boxMany n_colours n_many n_group n_row n_channelOf n_spreads n_boxMany f_thrown f_width f_height f_different f_groups f_rowSize f_ready f_size f_rounds f_colours f_many f_group f_row f_channelOf f_spreads f_boxMany) s.heap.size = A at hD hZ ⊢
  have hA : ∀ q : Nat, s.heap.size ≤ q → A q := fun q h => by rw [← hAe]; exact Or.inr h
  have hS : va_S A s.heap s.heap [] := va_S.rf
  have hl := lv_entry ([.ref q_this, .int x1]) (n := 4) (Nat.le_of_ble_eq_true rfl)
  rw [lg_entry_eq]
  generalize (lg_sl ([.ref q_this, .int x1]) ++ List.replicate (4 - (lg_sl ([.ref q_this, .int x1])).length) Slot.unset).toArray = ls at hl ⊢
  have hl : lv_has ls 4 [(0, .ref q_this), (1, .int x1)] := hl
  have hL26 := (hB _ bw624)
  have hL35 := (hB _ bw629)
  have hL38 := (hB _ bw630)
  have hL108 := (hB _ bw621)
  have hL130 := (hB _ bw625)
  refine gx_abs (fun G eG => ?_)
  obtain ⟨K7, eK7⟩ : ∃ K : Int32 → Int32 → Int32 → (Nat → Int32) → (Nat → Int32) → (Nat → Int32) → (Nat → Int32) → (Nat → Int32) → Prop, K = fun v2 f_groups f_rowSize f_group f_row f_channelOf f_spreads f_boxMany => ∀ (H : Heap) (locs : List Loc) (ls : Array Slot), va_P (dC, dI) vwCl (wdMd_makeBoxes q_this q_colours q_many q_group q_row q_channelOf q_spreads q_boxMany r_samples r_isGiven r_gives r_there r_groupMany r_means r_sums r_palette r_has r_takers r_takenSums r_order r_before r_roundSums r_carried c_colours c_many c_group c_row c_channelOf c_spreads c_boxMany n_colours n_many n_group n_row n_channelOf n_spreads n_boxMany f_thrown f_width f_height f_different f_groups f_rowSize f_ready f_size f_rounds f_colours f_many f_group f_row f_channelOf f_spreads f_boxMany) H → va_D A (wdMd_makeBoxes q_this q_colours q_many q_group q_row q_channelOf q_spreads q_boxMany r_samples r_isGiven r_gives r_there r_groupMany r_means r_sums r_palette r_has r_takers r_takenSums r_order r_before r_roundSums r_carried c_colours c_many c_group c_row c_channelOf c_spreads c_boxMany n_colours n_many n_group n_row n_channelOf n_spreads n_boxMany f_thrown f_width f_height f_different f_groups f_rowSize f_ready f_size f_rounds f_colours f_many f_group f_row f_channelOf f_spreads f_boxMany) → va_S A s.heap H locs → lv_has ls 4 [(0, .ref q_this), (1, .int x1), (2, .int v2)] → G H locs 0 0 (F0 m 7 ls []) := ⟨_, rfl⟩
  obtain ⟨K33, eK33⟩ : ∃ K : Int32 → Int32 → (Nat → Int32) → (Nat → Int32) → (Nat → Int32) → (Nat → Int32) → (Nat → Int32) → Prop, K = fun f_groups f_rowSize f_group f_row f_channelOf f_spreads f_boxMany => ∀ (H : Heap) (locs : List Loc) (ls : Array Slot), va_P (dC, dI) vwCl (wdMd_makeBoxes q_this q_colours q_many q_group q_row q_channelOf q_spreads q_boxMany r_samples r_isGiven r_gives r_there r_groupMany r_means r_sums r_palette r_has r_takers r_takenSums r_order r_before r_roundSums r_carried c_colours c_many c_group c_row c_channelOf c_spreads c_boxMany n_colours n_many n_group n_row n_channelOf n_spreads n_boxMany f_thrown f_width f_height f_different f_groups f_rowSize f_ready f_size f_rounds f_colours f_many f_group f_row f_channelOf f_spreads f_boxMany) H → va_D A (wdMd_makeBoxes q_this q_colours q_many q_group q_row q_channelOf q_spreads q_boxMany r_samples r_isGiven r_gives r_there r_groupMany r_means r_sums r_palette r_has r_takers r_takenSums r_order r_before r_roundSums r_carried c_colours c_many c_group c_row c_channelOf c_spreads c_boxMany n_colours n_many n_group n_row n_channelOf n_spreads n_boxMany f_thrown f_width f_height f_different f_groups f_rowSize f_ready f_size f_rounds f_colours f_many f_group f_row f_channelOf f_spreads f_boxMany) → va_S A s.heap H locs → lv_has ls 4 [(0, .ref q_this), (1, .int x1)] → G H locs 0 0 (F0 m 33 ls []) := ⟨_, rfl⟩
  obtain ⟨K45, eK45⟩ : ∃ K : Int32 → Int32 → Int32 → Int32 → (Nat → Int32) → (Nat → Int32) → (Nat → Int32) → (Nat → Int32) → (Nat → Int32) → Prop, K = fun v2 v3 f_groups f_rowSize f_group f_row f_channelOf f_spreads f_boxMany => ∀ (H : Heap) (locs : List Loc) (ls : Array Slot), va_P (dC, dI) vwCl (wdMd_makeBoxes q_this q_colours q_many q_group q_row q_channelOf q_spreads q_boxMany r_samples r_isGiven r_gives r_there r_groupMany r_means r_sums r_palette r_has r_takers r_takenSums r_order r_before r_roundSums r_carried c_colours c_many c_group c_row c_channelOf c_spreads c_boxMany n_colours n_many n_group n_row n_channelOf n_spreads n_boxMany f_thrown f_width f_height f_different f_groups f_rowSize f_ready f_size f_rounds f_colours f_many f_group f_row f_channelOf f_spreads f_boxMany) H → va_D A (wdMd_makeBoxes q_this q_colours q_many q_group q_row q_channelOf q_spreads q_boxMany r_samples r_isGiven r_gives r_there r_groupMany r_means r_sums r_palette r_has r_takers r_takenSums r_order r_before r_roundSums r_carried c_colours c_many c_group c_row c_channelOf c_spreads c_boxMany n_colours n_many n_group n_row n_channelOf n_spreads n_boxMany f_thrown f_width f_height f_different f_groups f_rowSize f_ready f_size f_rounds f_colours f_many f_group f_row f_channelOf f_spreads f_boxMany) → va_S A s.heap H locs → lv_has ls 4 [(0, .ref q_this), (1, .int x1), (2, .int v2), (3, .int v3)] → G H locs 0 0 (F0 m 45 ls []) := ⟨_, rfl⟩
  have j103 : ∀ (v3 : Int32) (s0 : Int32) (f_groups : Int32) (f_rowSize : Int32) (f_group : Nat → Int32) (f_row : Nat → Int32) (f_channelOf : Nat → Int32) (f_spreads : Nat → Int32) (f_boxMany : Nat → Int32), vcMd_makeBoxes_103 n_colours n_many n_group n_row n_channelOf n_spreads n_boxMany f_thrown f_width f_height f_different f_ready f_size f_rounds f_colours f_many x1 K7 K33 K45 post v3 s0 f_groups f_rowSize f_group f_row f_channelOf f_spreads f_boxMany → ∀ (H : Heap) (locs : List Loc) (ls : Array Slot), va_P (dC, dI) vwCl (wdMd_makeBoxes q_this q_colours q_many q_group q_row q_channelOf q_spreads q_boxMany r_samples r_isGiven r_gives r_there r_groupMany r_means r_sums r_palette r_has r_takers r_takenSums r_order r_before r_roundSums r_carried c_colours c_many c_group c_row c_channelOf c_spreads c_boxMany n_colours n_many n_group n_row n_channelOf n_spreads n_boxMany f_thrown f_width f_height f_different f_groups f_rowSize f_ready f_size f_rounds f_colours f_many f_group f_row f_channelOf f_spreads f_boxMany) H → va_D A (wdMd_makeBoxes q_this q_colours q_many q_group q_row q_channelOf q_spreads q_boxMany r_samples r_isGiven r_gives r_there r_groupMany r_means r_sums r_palette r_has r_takers r_takenSums r_order r_before r_roundSums r_carried c_colours c_many c_group c_row c_channelOf c_spreads c_boxMany n_colours n_many n_group n_row n_channelOf n_spreads n_boxMany f_thrown f_width f_height f_different f_groups f_rowSize f_ready f_size f_rounds f_colours f_many f_group f_row f_channelOf f_spreads f_boxMany) → va_S A s.heap H locs → lv_has ls 4 [(0, .ref q_this), (1, .int x1), (3, .int v3)] → G H locs 0 0 (F0 m 103 ls [.int s0]) := by
    intro v3 s0 f_groups f_rowSize f_group f_row f_channelOf f_spreads f_boxMany hv H locs ls hP hD hS hl
    rw [eG]
    unfold vcMd_makeBoxes_103 at hv
    refine lv_istore_n (lv' := [(2, .int s0), (0, .ref q_this), (1, .int x1), (3, .int v3)]) hx hb dMd_makeBoxes_103 rfl hl (by decide) rfl (fun ls hl => ?_)
    refine lv_iinc (v := v3 + 1) (lv' := [(3, .int (v3 + 1)), (2, .int s0), (0, .ref q_this), (1, .int x1)]) hx hb dMd_makeBoxes_104 hl (k := 3) rfl rfl (by decide) rfl (fun ls hl => ?_)
    refine lv_goto (tgt := 45) hx hb dMd_makeBoxes_107 (by decide) ?_
    rw [eK45, eG] at hv
    exact hv _ _ _ hP hD hS (lv_sub hl [2, 3, 1, 0] rfl)
  rw [eG] at j103
  have j98 : ∀ (v3 : Int32) (f_groups : Int32) (f_rowSize : Int32) (f_group : Nat → Int32) (f_row : Nat → Int32) (f_channelOf : Nat → Int32) (f_spreads : Nat → Int32) (f_boxMany : Nat → Int32), vcMd_makeBoxes_98 n_colours n_many n_group n_row n_channelOf n_spreads n_boxMany f_thrown f_width f_height f_different f_ready f_size f_rounds f_colours f_many x1 K7 K33 K45 post v3 f_groups f_rowSize f_group f_row f_channelOf f_spreads f_boxMany → ∀ (H : Heap) (locs : List Loc) (ls : Array Slot), va_P (dC, dI) vwCl (wdMd_makeBoxes q_this q_colours q_many q_group q_row q_channelOf q_spreads q_boxMany r_samples r_isGiven r_gives r_there r_groupMany r_means r_sums r_palette r_has r_takers r_takenSums r_order r_before r_roundSums r_carried c_colours c_many c_group c_row c_channelOf c_spreads c_boxMany n_colours n_many n_group n_row n_channelOf n_spreads n_boxMany f_thrown f_width f_height f_different f_groups f_rowSize f_ready f_size f_rounds f_colours f_many f_group f_row f_channelOf f_spreads f_boxMany) H → va_D A (wdMd_makeBoxes q_this q_colours q_many q_group q_row q_channelOf q_spreads q_boxMany r_samples r_isGiven r_gives r_there r_groupMany r_means r_sums r_palette r_has r_takers r_takenSums r_order r_before r_roundSums r_carried c_colours c_many c_group c_row c_channelOf c_spreads c_boxMany n_colours n_many n_group n_row n_channelOf n_spreads n_boxMany f_thrown f_width f_height f_different f_groups f_rowSize f_ready f_size f_rounds f_colours f_many f_group f_row f_channelOf f_spreads f_boxMany) → va_S A s.heap H locs → lv_has ls 4 [(0, .ref q_this), (1, .int x1), (3, .int v3)] → G H locs 0 0 (F0 m 98 ls []) := by
    intro v3 f_groups f_rowSize f_group f_row f_channelOf f_spreads f_boxMany hv H locs ls hP hD hS hl
    rw [eG]
    unfold vcMd_makeBoxes_98 at hv
    refine lv_iload_n hx hb dMd_makeBoxes_98 rfl (lv_at hl 2 rfl) ?_
    refine lv_goto (tgt := 103) hx hb dMd_makeBoxes_99 (by decide) ?_
    exact j103 v3 v3 f_groups f_rowSize f_group f_row f_channelOf f_spreads f_boxMany hv _ _ _ hP hD hS (lv_sub hl [0, 1, 2] rfl)
  rw [eG] at j98
  have j102 : ∀ (v2 : Int32) (v3 : Int32) (f_groups : Int32) (f_rowSize : Int32) (f_group : Nat → Int32) (f_row : Nat → Int32) (f_channelOf : Nat → Int32) (f_spreads : Nat → Int32) (f_boxMany : Nat → Int32), vcMd_makeBoxes_102 n_colours n_many n_group n_row n_channelOf n_spreads n_boxMany f_thrown f_width f_height f_different f_ready f_size f_rounds f_colours f_many x1 K7 K33 K45 post v2 v3 f_groups f_rowSize f_group f_row f_channelOf f_spreads f_boxMany → ∀ (H : Heap) (locs : List Loc) (ls : Array Slot), va_P (dC, dI) vwCl (wdMd_makeBoxes q_this q_colours q_many q_group q_row q_channelOf q_spreads q_boxMany r_samples r_isGiven r_gives r_there r_groupMany r_means r_sums r_palette r_has r_takers r_takenSums r_order r_before r_roundSums r_carried c_colours c_many c_group c_row c_channelOf c_spreads c_boxMany n_colours n_many n_group n_row n_channelOf n_spreads n_boxMany f_thrown f_width f_height f_different f_groups f_rowSize f_ready f_size f_rounds f_colours f_many f_group f_row f_channelOf f_spreads f_boxMany) H → va_D A (wdMd_makeBoxes q_this q_colours q_many q_group q_row q_channelOf q_spreads q_boxMany r_samples r_isGiven r_gives r_there r_groupMany r_means r_sums r_palette r_has r_takers r_takenSums r_order r_before r_roundSums r_carried c_colours c_many c_group c_row c_channelOf c_spreads c_boxMany n_colours n_many n_group n_row n_channelOf n_spreads n_boxMany f_thrown f_width f_height f_different f_groups f_rowSize f_ready f_size f_rounds f_colours f_many f_group f_row f_channelOf f_spreads f_boxMany) → va_S A s.heap H locs → lv_has ls 4 [(0, .ref q_this), (1, .int x1), (2, .int v2), (3, .int v3)] → G H locs 0 0 (F0 m 102 ls []) := by
    intro v2 v3 f_groups f_rowSize f_group f_row f_channelOf f_spreads f_boxMany hv H locs ls hP hD hS hl
    rw [eG]
    unfold vcMd_makeBoxes_102 at hv
    refine lv_iload_n hx hb dMd_makeBoxes_102 rfl (lv_at hl 2 rfl) ?_
    exact j103 v3 v2 f_groups f_rowSize f_group f_row f_channelOf f_spreads f_boxMany hv _ _ _ hP hD hS (lv_sub hl [0, 1, 3] rfl)
  rw [eG] at j102
  unfold wpMd_makeBoxes at hw
  have hv := hw K7 K33 K45
  have hv := hv (by
    intro v2 f_groups f_rowSize f_group f_row f_channelOf f_spreads f_boxMany hv
    rw [eK7]
    intro H locs ls hP hD hS hl
    rw [eG]
    unfold vcMd_makeBoxes_7 at hv
    refine lv_iload_n hx hb dMd_makeBoxes_7 rfl (lv_at hl 2 rfl) ?_
    refine lv_aload_n hx hb dMd_makeBoxes_8 rfl (lv_at hl 0 rfl) ?_
    refine va_get (D := (dC, dI)) (ci := 8) (v := .int f_different) (C := RMd) (T := TMd) (N := 31) hx hb hB hiMd hown hK hP 0 rfl rfl 6 (by decide) hL108 (fun _ h9 => h9) rfl dMd_makeBoxes_9 ?_
    refine lv_icmp_ge (tgt := 28) hx hb dMd_makeBoxes_12 (by decide) (fun c_1 => ?_) (fun c_1 => ?_)
    · have hv := hv.1 c_1
      refine lv_aload_n hx hb dMd_makeBoxes_28 rfl (lv_at hl 0 rfl) ?_
      refine lv_iconst (v := 0) hx hb dMd_makeBoxes_29 (by decide) ?_
      have hFc := va_free (wc := (wdMd_look q_this q_colours q_many q_group q_channelOf q_spreads q_boxMany r_samples r_isGiven r_gives q_row r_there r_groupMany r_means r_sums r_palette r_has r_takers r_takenSums r_order r_before r_roundSums r_carried c_colours c_many c_group c_channelOf c_spreads c_boxMany n_colours n_many n_group n_channelOf n_spreads n_boxMany f_thrown f_width f_height f_different f_groups f_rowSize f_ready f_size f_rounds f_colours f_many f_group f_channelOf f_spreads f_boxMany)) hD hS hA [0, 1, 2, 3, 5, 6, 7] rfl
      refine gx_v (wr := [(q_row, .inl (c_row, n_row, .inl f_row))]) (va_runV (As := [.int 0]) (rest := []) ⟨hx, hb, hml, hown, hB⟩ (metMd_look l dC dI q_this q_colours q_many q_group q_channelOf q_spreads q_boxMany r_samples r_isGiven r_gives q_row r_there r_groupMany r_means r_sums r_palette r_has r_takers r_takenSums r_order r_before r_roundSums r_carried c_colours c_many c_group c_channelOf c_spreads c_boxMany n_colours n_many n_group n_channelOf n_spreads n_boxMany H.size f_thrown f_width f_height f_different f_groups f_rowSize f_ready f_size f_rounds f_colours f_many f_group f_channelOf f_spreads f_boxMany 0 hv) (cwV 1 hB (gx_gV bw728 bw729 bw29 bw53 bw730) rfl rfl rfl (by decide +kernel) ⟨(Nat.le_of_ble_eq_true rfl), (Nat.le_of_ble_eq_true rfl)⟩) (gx_preV (ci := 8) (hP.sub (ws' := (wdMd_look q_this q_colours q_many q_group q_channelOf q_spreads q_boxMany r_samples r_isGiven r_gives q_row r_there r_groupMany r_means r_sums r_palette r_has r_takers r_takenSums r_order r_before r_roundSums r_carried c_colours c_many c_group c_channelOf c_spreads c_boxMany n_colours n_many n_group n_channelOf n_spreads n_boxMany f_thrown f_width f_height f_different f_groups f_rowSize f_ready f_size f_rounds f_colours f_many f_group f_channelOf f_spreads f_boxMany)) [0, 1, 2, 3, 5, 6, 7] rfl) (hK.sub (tys' := [(c_colours, .int), (c_many, .int), (c_group, .int), (c_channelOf, .int), (c_spreads, .int), (c_boxMany, .int)]) [0, 1, 2, 4, 5, 6] rfl) (hD.sub (ws' := (wdMd_look q_this q_colours q_many q_group q_channelOf q_spreads q_boxMany r_samples r_isGiven r_gives q_row r_there r_groupMany r_means r_sums r_palette r_has r_takers r_takenSums r_order r_before r_roundSums r_carried c_colours c_many c_group c_channelOf c_spreads c_boxMany n_colours n_many n_group n_channelOf n_spreads n_boxMany f_thrown f_width f_height f_different f_groups f_rowSize f_ready f_size f_rounds f_colours f_many f_group f_channelOf f_spreads f_boxMany)) [0, 1, 2, 3, 5, 6, 7] (by decide) rfl) hZ hS hFc rfl rfl) rfl rfl hl.1 rfl (lv_room (Nat.le_of_ble_eq_true rfl)) dMd_makeBoxes_30 ⟨(Nat.le_of_ble_eq_true rfl), (Nat.le_of_ble_eq_true rfl)⟩) hP hD hS hFc [0, 1, 2, 3, 5, 6, 7] [4] rfl rfl (by decide) (by decide) (fun u_5 H locs hv hP hD hS => ?_)
      obtain ⟨f_channelOf_2, f_spreads_3, f_boxMany_4⟩ := u_5
      have hP : va_P (dC, dI) vwCl (wdMd_makeBoxes q_this q_colours q_many q_group q_row q_channelOf q_spreads q_boxMany r_samples r_isGiven r_gives r_there r_groupMany r_means r_sums r_palette r_has r_takers r_takenSums r_order r_before r_roundSums r_carried c_colours c_many c_group c_row c_channelOf c_spreads c_boxMany n_colours n_many n_group n_row n_channelOf n_spreads n_boxMany f_thrown f_width f_height f_different f_groups f_rowSize f_ready f_size f_rounds f_colours f_many f_group f_row f_channelOf_2 f_spreads_3 f_boxMany_4) H := hP.sub [1, 2, 3, 4, 0, 5, 6, 7] rfl
      have hD : va_D A (wdMd_makeBoxes q_this q_colours q_many q_group q_row q_channelOf q_spreads q_boxMany r_samples r_isGiven r_gives r_there r_groupMany r_means r_sums r_palette r_has r_takers r_takenSums r_order r_before r_roundSums r_carried c_colours c_many c_group c_row c_channelOf c_spreads c_boxMany n_colours n_many n_group n_row n_channelOf n_spreads n_boxMany f_thrown f_width f_height f_different f_groups f_rowSize f_ready f_size f_rounds f_colours f_many f_group f_row f_channelOf_2 f_spreads_3 f_boxMany_4) := hD.sub [1, 2, 3, 4, 0, 5, 6, 7] (by decide) rfl
      rw [eK33, eG] at hv
      exact hv _ _ _ hP hD hS (lv_sub hl [0, 1] rfl)
    · have hv := hv.2 c_1
      refine lv_aload_n hx hb dMd_makeBoxes_15 rfl (lv_at hl 0 rfl) ?_
      refine va_get (D := (dC, dI)) (ci := 8) (v := .ref q_group) (C := RMd) (T := TMd) (N := 31) hx hb hB hiMd hown hK hP 0 rfl rfl 9 (by decide) hL26 (fun _ h9 => h9) rfl dMd_makeBoxes_16 ?_
      refine lv_iload_n hx hb dMd_makeBoxes_19 rfl (lv_at hl 2 rfl) ?_
      refine lv_iconst (v := 0) hx hb dMd_makeBoxes_20 (by decide) ?_
      obtain ⟨h_6, hv⟩ := hv
      refine va_iast hx hb hK hP hD hS 3 2 rfl rfl h_6 dMd_makeBoxes_21 (fun H locs hP hD hS => ?_)
      have hP : va_P (dC, dI) vwCl (wdMd_makeBoxes q_this q_colours q_many q_group q_row q_channelOf q_spreads q_boxMany r_samples r_isGiven r_gives r_there r_groupMany r_means r_sums r_palette r_has r_takers r_takenSums r_order r_before r_roundSums r_carried c_colours c_many c_group c_row c_channelOf c_spreads c_boxMany n_colours n_many n_group n_row n_channelOf n_spreads n_boxMany f_thrown f_width f_height f_different f_groups f_rowSize f_ready f_size f_rounds f_colours f_many (upd f_group v2.toNatClampNeg 0) f_row f_channelOf f_spreads f_boxMany) H := hP
      have hD : va_D A (wdMd_makeBoxes q_this q_colours q_many q_group q_row q_channelOf q_spreads q_boxMany r_samples r_isGiven r_gives r_there r_groupMany r_means r_sums r_palette r_has r_takers r_takenSums r_order r_before r_roundSums r_carried c_colours c_many c_group c_row c_channelOf c_spreads c_boxMany n_colours n_many n_group n_row n_channelOf n_spreads n_boxMany f_thrown f_width f_height f_different f_groups f_rowSize f_ready f_size f_rounds f_colours f_many (upd f_group v2.toNatClampNeg 0) f_row f_channelOf f_spreads f_boxMany) := hD
      refine lv_iinc (v := v2 + 1) (lv' := [(2, .int (v2 + 1)), (0, .ref q_this), (1, .int x1)]) hx hb dMd_makeBoxes_22 hl (k := 2) rfl rfl (by decide) rfl (fun ls hl => ?_)
      refine lv_goto (tgt := 7) hx hb dMd_makeBoxes_25 (by decide) ?_
      rw [eK7, eG] at hv
      exact hv _ _ _ hP hD hS (lv_sub hl [1, 2, 0] rfl))
  have hv := hv (by
    intro f_groups f_rowSize f_group f_row f_channelOf f_spreads f_boxMany hv
    rw [eK33]
    intro H locs ls hP hD hS hl
    rw [eG]
    unfold vcMd_makeBoxes_33 at hv
    refine lv_aload_n hx hb dMd_makeBoxes_33 rfl (lv_at hl 0 rfl) ?_
    refine va_get (D := (dC, dI)) (ci := 8) (v := .int f_groups) (C := RMd) (T := TMd) (N := 31) hx hb hB hiMd hown hK hP 0 rfl rfl 10 (by decide) hL130 (fun _ h9 => h9) rfl dMd_makeBoxes_34 ?_
    refine lv_iload_n hx hb dMd_makeBoxes_37 rfl (lv_at hl 1 rfl) ?_
    refine lv_icmp_ge (tgt := 133) hx hb dMd_makeBoxes_38 (by decide) (fun c_8 => ?_) (fun c_8 => ?_)
    · have hv := hv.1 c_8
      exact W.vret hx hb hr (fun t ht hW => ⟨⟨(f_groups, f_rowSize, f_group, f_row, f_channelOf, f_spreads, f_boxMany), rfl, hv, by rw [ht]; exact hP, hD⟩, hS.F ht⟩) hS.2.2 dMd_makeBoxes_133
    · have hv := hv.2 c_8
      refine lv_iconst (v := 0) hx hb dMd_makeBoxes_41 (by decide) ?_
      refine lv_istore_n (lv' := [(2, .int 0), (0, .ref q_this), (1, .int x1)]) hx hb dMd_makeBoxes_42 rfl hl (by decide) rfl (fun ls hl => ?_)
      refine lv_iconst (v := 1) hx hb dMd_makeBoxes_43 (by decide) ?_
      refine lv_istore_n (lv' := [(3, .int 1), (2, .int 0), (0, .ref q_this), (1, .int x1)]) hx hb dMd_makeBoxes_44 rfl hl (by decide) rfl (fun ls hl => ?_)
      rw [eK45, eG] at hv
      exact hv _ _ _ hP hD hS (lv_sub hl [2, 3, 1, 0] rfl))
  have hv := hv (by
    intro v2 v3 f_groups f_rowSize f_group f_row f_channelOf f_spreads f_boxMany hv
    rw [eK45]
    intro H locs ls hP hD hS hl
    rw [eG]
    unfold vcMd_makeBoxes_45 at hv
    refine lv_iload_n hx hb dMd_makeBoxes_45 rfl (lv_at hl 3 rfl) ?_
    refine lv_aload_n hx hb dMd_makeBoxes_46 rfl (lv_at hl 0 rfl) ?_
    refine va_get (D := (dC, dI)) (ci := 8) (v := .int f_groups) (C := RMd) (T := TMd) (N := 31) hx hb hB hiMd hown hK hP 0 rfl rfl 10 (by decide) hL130 (fun _ h9 => h9) rfl dMd_makeBoxes_47 ?_
    refine lv_icmp_ge (tgt := 110) hx hb dMd_makeBoxes_50 (by decide) (fun c_9 => ?_) (fun c_9 => ?_)
    · have hv := hv.1 c_9
      refine lv_aload_n hx hb dMd_makeBoxes_110 rfl (lv_at hl 0 rfl) ?_
      refine lv_iload_n hx hb dMd_makeBoxes_111 rfl (lv_at hl 2 rfl) ?_
      have hFc := va_free (wc := (wdMd_cut q_this q_colours q_many q_group q_row q_channelOf r_samples r_isGiven r_gives q_spreads q_boxMany r_there r_groupMany r_means r_sums r_palette r_has r_takers r_takenSums r_order r_before r_roundSums r_carried c_colours c_many c_group c_row c_channelOf n_colours n_many n_group n_row n_channelOf f_thrown f_width f_height f_different f_groups f_rowSize f_ready f_size f_rounds f_colours f_many f_group f_row f_channelOf)) hD hS hA [0, 1, 2, 3, 4, 5] rfl
      refine gx_v (wr := [(q_spreads, .inl (c_spreads, n_spreads, .inl f_spreads)), (q_boxMany, .inl (c_boxMany, n_boxMany, .inl f_boxMany))]) (va_runV (As := [.int v2]) (rest := []) ⟨hx, hb, hml, hown, hB⟩ (metMd_cut l dC dI q_this q_colours q_many q_group q_row q_channelOf r_samples r_isGiven r_gives q_spreads q_boxMany r_there r_groupMany r_means r_sums r_palette r_has r_takers r_takenSums r_order r_before r_roundSums r_carried c_colours c_many c_group c_row c_channelOf n_colours n_many n_group n_row n_channelOf H.size f_thrown f_width f_height f_different f_groups f_rowSize f_ready f_size f_rounds f_colours f_many f_group f_row f_channelOf v2 hv) (cwV 1 hB (gx_gV bw740 bw741 bw33 bw53 bw742) rfl rfl rfl (by decide +kernel) ⟨(Nat.le_of_ble_eq_true rfl), (Nat.le_of_ble_eq_true rfl)⟩) (gx_preV (ci := 8) (hP.sub (ws' := (wdMd_cut q_this q_colours q_many q_group q_row q_channelOf r_samples r_isGiven r_gives q_spreads q_boxMany r_there r_groupMany r_means r_sums r_palette r_has r_takers r_takenSums r_order r_before r_roundSums r_carried c_colours c_many c_group c_row c_channelOf n_colours n_many n_group n_row n_channelOf f_thrown f_width f_height f_different f_groups f_rowSize f_ready f_size f_rounds f_colours f_many f_group f_row f_channelOf)) [0, 1, 2, 3, 4, 5] rfl) (hK.sub (tys' := [(c_colours, .int), (c_many, .int), (c_group, .int), (c_row, .int), (c_channelOf, .int)]) [0, 1, 2, 3, 4] rfl) (hD.sub (ws' := (wdMd_cut q_this q_colours q_many q_group q_row q_channelOf r_samples r_isGiven r_gives q_spreads q_boxMany r_there r_groupMany r_means r_sums r_palette r_has r_takers r_takenSums r_order r_before r_roundSums r_carried c_colours c_many c_group c_row c_channelOf n_colours n_many n_group n_row n_channelOf f_thrown f_width f_height f_different f_groups f_rowSize f_ready f_size f_rounds f_colours f_many f_group f_row f_channelOf)) [0, 1, 2, 3, 4, 5] (by decide) rfl) hZ hS hFc rfl rfl) rfl rfl hl.1 rfl (lv_room (Nat.le_of_ble_eq_true rfl)) dMd_makeBoxes_112 ⟨(Nat.le_of_ble_eq_true rfl), (Nat.le_of_ble_eq_true rfl)⟩) hP hD hS hFc [0, 1, 2, 3, 4, 5] [6, 7] rfl rfl (by decide) (by decide) (fun u_14 H locs hv hP hD hS => ?_)
      obtain ⟨f_groups_10, f_rowSize_11, f_group_12, f_row_13⟩ := u_14
      have hP : va_P (dC, dI) vwCl (wdMd_makeBoxes q_this q_colours q_many q_group q_row q_channelOf q_spreads q_boxMany r_samples r_isGiven r_gives r_there r_groupMany r_means r_sums r_palette r_has r_takers r_takenSums r_order r_before r_roundSums r_carried c_colours c_many c_group c_row c_channelOf c_spreads c_boxMany n_colours n_many n_group n_row n_channelOf n_spreads n_boxMany f_thrown f_width f_height f_different f_groups_10 f_rowSize_11 f_ready f_size f_rounds f_colours f_many f_group_12 f_row_13 f_channelOf f_spreads f_boxMany) H := hP.sub [2, 3, 4, 5, 6, 7, 0, 1] rfl
      have hD : va_D A (wdMd_makeBoxes q_this q_colours q_many q_group q_row q_channelOf q_spreads q_boxMany r_samples r_isGiven r_gives r_there r_groupMany r_means r_sums r_palette r_has r_takers r_takenSums r_order r_before r_roundSums r_carried c_colours c_many c_group c_row c_channelOf c_spreads c_boxMany n_colours n_many n_group n_row n_channelOf n_spreads n_boxMany f_thrown f_width f_height f_different f_groups_10 f_rowSize_11 f_ready f_size f_rounds f_colours f_many f_group_12 f_row_13 f_channelOf f_spreads f_boxMany) := hD.sub [2, 3, 4, 5, 6, 7, 0, 1] (by decide) rfl
      refine lv_aload_n hx hb dMd_makeBoxes_115 rfl (lv_at hl 0 rfl) ?_
      refine lv_iload_n hx hb dMd_makeBoxes_116 rfl (lv_at hl 2 rfl) ?_
      have hFc := va_free (wc := (wdMd_look q_this q_colours q_many q_group q_channelOf q_spreads q_boxMany r_samples r_isGiven r_gives q_row r_there r_groupMany r_means r_sums r_palette r_has r_takers r_takenSums r_order r_before r_roundSums r_carried c_colours c_many c_group c_channelOf c_spreads c_boxMany n_colours n_many n_group n_channelOf n_spreads n_boxMany f_thrown f_width f_height f_different f_groups_10 f_rowSize_11 f_ready f_size f_rounds f_colours f_many f_group_12 f_channelOf f_spreads f_boxMany)) hD hS hA [0, 1, 2, 3, 5, 6, 7] rfl
      refine gx_v (wr := [(q_row, .inl (c_row, n_row, .inl f_row_13))]) (va_runV (As := [.int v2]) (rest := []) ⟨hx, hb, hml, hown, hB⟩ (metMd_look l dC dI q_this q_colours q_many q_group q_channelOf q_spreads q_boxMany r_samples r_isGiven r_gives q_row r_there r_groupMany r_means r_sums r_palette r_has r_takers r_takenSums r_order r_before r_roundSums r_carried c_colours c_many c_group c_channelOf c_spreads c_boxMany n_colours n_many n_group n_channelOf n_spreads n_boxMany H.size f_thrown f_width f_height f_different f_groups_10 f_rowSize_11 f_ready f_size f_rounds f_colours f_many f_group_12 f_channelOf f_spreads f_boxMany v2 hv) (cwV 1 hB (gx_gV bw728 bw729 bw29 bw53 bw730) rfl rfl rfl (by decide +kernel) ⟨(Nat.le_of_ble_eq_true rfl), (Nat.le_of_ble_eq_true rfl)⟩) (gx_preV (ci := 8) (hP.sub (ws' := (wdMd_look q_this q_colours q_many q_group q_channelOf q_spreads q_boxMany r_samples r_isGiven r_gives q_row r_there r_groupMany r_means r_sums r_palette r_has r_takers r_takenSums r_order r_before r_roundSums r_carried c_colours c_many c_group c_channelOf c_spreads c_boxMany n_colours n_many n_group n_channelOf n_spreads n_boxMany f_thrown f_width f_height f_different f_groups_10 f_rowSize_11 f_ready f_size f_rounds f_colours f_many f_group_12 f_channelOf f_spreads f_boxMany)) [0, 1, 2, 3, 5, 6, 7] rfl) (hK.sub (tys' := [(c_colours, .int), (c_many, .int), (c_group, .int), (c_channelOf, .int), (c_spreads, .int), (c_boxMany, .int)]) [0, 1, 2, 4, 5, 6] rfl) (hD.sub (ws' := (wdMd_look q_this q_colours q_many q_group q_channelOf q_spreads q_boxMany r_samples r_isGiven r_gives q_row r_there r_groupMany r_means r_sums r_palette r_has r_takers r_takenSums r_order r_before r_roundSums r_carried c_colours c_many c_group c_channelOf c_spreads c_boxMany n_colours n_many n_group n_channelOf n_spreads n_boxMany f_thrown f_width f_height f_different f_groups_10 f_rowSize_11 f_ready f_size f_rounds f_colours f_many f_group_12 f_channelOf f_spreads f_boxMany)) [0, 1, 2, 3, 5, 6, 7] (by decide) rfl) hZ hS hFc rfl rfl) rfl rfl hl.1 rfl (lv_room (Nat.le_of_ble_eq_true rfl)) dMd_makeBoxes_117 ⟨(Nat.le_of_ble_eq_true rfl), (Nat.le_of_ble_eq_true rfl)⟩) hP hD hS hFc [0, 1, 2, 3, 5, 6, 7] [4] rfl rfl (by decide) (by decide) (fun u_18 H locs hv hP hD hS => ?_)
      obtain ⟨f_channelOf_15, f_spreads_16, f_boxMany_17⟩ := u_18
      have hP : va_P (dC, dI) vwCl (wdMd_makeBoxes q_this q_colours q_many q_group q_row q_channelOf q_spreads q_boxMany r_samples r_isGiven r_gives r_there r_groupMany r_means r_sums r_palette r_has r_takers r_takenSums r_order r_before r_roundSums r_carried c_colours c_many c_group c_row c_channelOf c_spreads c_boxMany n_colours n_many n_group n_row n_channelOf n_spreads n_boxMany f_thrown f_width f_height f_different f_groups_10 f_rowSize_11 f_ready f_size f_rounds f_colours f_many f_group_12 f_row_13 f_channelOf_15 f_spreads_16 f_boxMany_17) H := hP.sub [1, 2, 3, 4, 0, 5, 6, 7] rfl
      have hD : va_D A (wdMd_makeBoxes q_this q_colours q_many q_group q_row q_channelOf q_spreads q_boxMany r_samples r_isGiven r_gives r_there r_groupMany r_means r_sums r_palette r_has r_takers r_takenSums r_order r_before r_roundSums r_carried c_colours c_many c_group c_row c_channelOf c_spreads c_boxMany n_colours n_many n_group n_row n_channelOf n_spreads n_boxMany f_thrown f_width f_height f_different f_groups_10 f_rowSize_11 f_ready f_size f_rounds f_colours f_many f_group_12 f_row_13 f_channelOf_15 f_spreads_16 f_boxMany_17) := hD.sub [1, 2, 3, 4, 0, 5, 6, 7] (by decide) rfl
      refine lv_aload_n hx hb dMd_makeBoxes_120 rfl (lv_at hl 0 rfl) ?_
      refine lv_aload_n hx hb dMd_makeBoxes_121 rfl (lv_at hl 0 rfl) ?_
      refine va_get (D := (dC, dI)) (ci := 8) (v := .int f_groups_10) (C := RMd) (T := TMd) (N := 31) hx hb hB hiMd hown hK hP 0 rfl rfl 10 (by decide) hL130 (fun _ h9 => h9) rfl dMd_makeBoxes_122 ?_
      refine lv_iconst (v := 1) hx hb dMd_makeBoxes_125 (by decide) ?_
      refine lv_isub hx hb dMd_makeBoxes_126 ?_
      have hFc := va_free (wc := (wdMd_look q_this q_colours q_many q_group q_channelOf q_spreads q_boxMany r_samples r_isGiven r_gives q_row r_there r_groupMany r_means r_sums r_palette r_has r_takers r_takenSums r_order r_before r_roundSums r_carried c_colours c_many c_group c_channelOf c_spreads c_boxMany n_colours n_many n_group n_channelOf n_spreads n_boxMany f_thrown f_width f_height f_different f_groups_10 f_rowSize_11 f_ready f_size f_rounds f_colours f_many f_group_12 f_channelOf_15 f_spreads_16 f_boxMany_17)) hD hS hA [0, 1, 2, 3, 5, 6, 7] rfl
      refine gx_v (wr := [(q_row, .inl (c_row, n_row, .inl f_row_13))]) (va_runV (As := [.int (f_groups_10 - 1)]) (rest := []) ⟨hx, hb, hml, hown, hB⟩ (metMd_look l dC dI q_this q_colours q_many q_group q_channelOf q_spreads q_boxMany r_samples r_isGiven r_gives q_row r_there r_groupMany r_means r_sums r_palette r_has r_takers r_takenSums r_order r_before r_roundSums r_carried c_colours c_many c_group c_channelOf c_spreads c_boxMany n_colours n_many n_group n_channelOf n_spreads n_boxMany H.size f_thrown f_width f_height f_different f_groups_10 f_rowSize_11 f_ready f_size f_rounds f_colours f_many f_group_12 f_channelOf_15 f_spreads_16 f_boxMany_17 (f_groups_10 - 1) hv) (cwV 1 hB (gx_gV bw728 bw729 bw29 bw53 bw730) rfl rfl rfl (by decide +kernel) ⟨(Nat.le_of_ble_eq_true rfl), (Nat.le_of_ble_eq_true rfl)⟩) (gx_preV (ci := 8) (hP.sub (ws' := (wdMd_look q_this q_colours q_many q_group q_channelOf q_spreads q_boxMany r_samples r_isGiven r_gives q_row r_there r_groupMany r_means r_sums r_palette r_has r_takers r_takenSums r_order r_before r_roundSums r_carried c_colours c_many c_group c_channelOf c_spreads c_boxMany n_colours n_many n_group n_channelOf n_spreads n_boxMany f_thrown f_width f_height f_different f_groups_10 f_rowSize_11 f_ready f_size f_rounds f_colours f_many f_group_12 f_channelOf_15 f_spreads_16 f_boxMany_17)) [0, 1, 2, 3, 5, 6, 7] rfl) (hK.sub (tys' := [(c_colours, .int), (c_many, .int), (c_group, .int), (c_channelOf, .int), (c_spreads, .int), (c_boxMany, .int)]) [0, 1, 2, 4, 5, 6] rfl) (hD.sub (ws' := (wdMd_look q_this q_colours q_many q_group q_channelOf q_spreads q_boxMany r_samples r_isGiven r_gives q_row r_there r_groupMany r_means r_sums r_palette r_has r_takers r_takenSums r_order r_before r_roundSums r_carried c_colours c_many c_group c_channelOf c_spreads c_boxMany n_colours n_many n_group n_channelOf n_spreads n_boxMany f_thrown f_width f_height f_different f_groups_10 f_rowSize_11 f_ready f_size f_rounds f_colours f_many f_group_12 f_channelOf_15 f_spreads_16 f_boxMany_17)) [0, 1, 2, 3, 5, 6, 7] (by decide) rfl) hZ hS hFc rfl rfl) rfl rfl hl.1 rfl (lv_room (Nat.le_of_ble_eq_true rfl)) dMd_makeBoxes_127 ⟨(Nat.le_of_ble_eq_true rfl), (Nat.le_of_ble_eq_true rfl)⟩) hP hD hS hFc [0, 1, 2, 3, 5, 6, 7] [4] rfl rfl (by decide) (by decide) (fun u_22 H locs hv hP hD hS => ?_)
      obtain ⟨f_channelOf_19, f_spreads_20, f_boxMany_21⟩ := u_22
      have hP : va_P (dC, dI) vwCl (wdMd_makeBoxes q_this q_colours q_many q_group q_row q_channelOf q_spreads q_boxMany r_samples r_isGiven r_gives r_there r_groupMany r_means r_sums r_palette r_has r_takers r_takenSums r_order r_before r_roundSums r_carried c_colours c_many c_group c_row c_channelOf c_spreads c_boxMany n_colours n_many n_group n_row n_channelOf n_spreads n_boxMany f_thrown f_width f_height f_different f_groups_10 f_rowSize_11 f_ready f_size f_rounds f_colours f_many f_group_12 f_row_13 f_channelOf_19 f_spreads_20 f_boxMany_21) H := hP.sub [1, 2, 3, 4, 0, 5, 6, 7] rfl
      have hD : va_D A (wdMd_makeBoxes q_this q_colours q_many q_group q_row q_channelOf q_spreads q_boxMany r_samples r_isGiven r_gives r_there r_groupMany r_means r_sums r_palette r_has r_takers r_takenSums r_order r_before r_roundSums r_carried c_colours c_many c_group c_row c_channelOf c_spreads c_boxMany n_colours n_many n_group n_row n_channelOf n_spreads n_boxMany f_thrown f_width f_height f_different f_groups_10 f_rowSize_11 f_ready f_size f_rounds f_colours f_many f_group_12 f_row_13 f_channelOf_19 f_spreads_20 f_boxMany_21) := hD.sub [1, 2, 3, 4, 0, 5, 6, 7] (by decide) rfl
      refine lv_goto (tgt := 33) hx hb dMd_makeBoxes_130 (by decide) ?_
      rw [eK33, eG] at hv
      exact hv _ _ _ hP hD hS (lv_sub hl [0, 1] rfl)
    · have hv := hv.2 c_9
      refine lv_aload_n hx hb dMd_makeBoxes_53 rfl (lv_at hl 0 rfl) ?_
      refine va_get (D := (dC, dI)) (ci := 8) (v := .ref q_spreads) (C := RMd) (T := TMd) (N := 31) hx hb hB hiMd hown hK hP 0 rfl rfl 14 (by decide) hL35 (fun _ h9 => h9) rfl dMd_makeBoxes_54 ?_
      refine lv_iload_n hx hb dMd_makeBoxes_57 rfl (lv_at hl 3 rfl) ?_
      obtain ⟨h_23, hv⟩ := hv
      refine va_iald hx hb hK hP 6 5 rfl rfl h_23 dMd_makeBoxes_58 ?_
      refine lv_aload_n hx hb dMd_makeBoxes_59 rfl (lv_at hl 0 rfl) ?_
      refine va_get (D := (dC, dI)) (ci := 8) (v := .ref q_spreads) (C := RMd) (T := TMd) (N := 31) hx hb hB hiMd hown hK hP 0 rfl rfl 14 (by decide) hL35 (fun _ h9 => h9) rfl dMd_makeBoxes_60 ?_
      refine lv_iload_n hx hb dMd_makeBoxes_63 rfl (lv_at hl 2 rfl) ?_
      obtain ⟨h_24, hv⟩ := hv
      refine va_iald hx hb hK hP 6 5 rfl rfl h_24 dMd_makeBoxes_64 ?_
      refine lv_icmp_gt (tgt := 98) hx hb dMd_makeBoxes_65 (by decide) (fun c_25 => ?_) (fun c_25 => ?_)
      · have hv := hv.1 c_25
        exact j98 v3 f_groups f_rowSize f_group f_row f_channelOf f_spreads f_boxMany hv _ _ _ hP hD hS (lv_sub hl [0, 1, 3] rfl)
      · have hv := hv.2 c_25
        refine lv_aload_n hx hb dMd_makeBoxes_68 rfl (lv_at hl 0 rfl) ?_
        refine va_get (D := (dC, dI)) (ci := 8) (v := .ref q_spreads) (C := RMd) (T := TMd) (N := 31) hx hb hB hiMd hown hK hP 0 rfl rfl 14 (by decide) hL35 (fun _ h9 => h9) rfl dMd_makeBoxes_69 ?_
        refine lv_iload_n hx hb dMd_makeBoxes_72 rfl (lv_at hl 3 rfl) ?_
        obtain ⟨h_26, hv⟩ := hv
        refine va_iald hx hb hK hP 6 5 rfl rfl h_26 dMd_makeBoxes_73 ?_
        refine lv_aload_n hx hb dMd_makeBoxes_74 rfl (lv_at hl 0 rfl) ?_
        refine va_get (D := (dC, dI)) (ci := 8) (v := .ref q_spreads) (C := RMd) (T := TMd) (N := 31) hx hb hB hiMd hown hK hP 0 rfl rfl 14 (by decide) hL35 (fun _ h9 => h9) rfl dMd_makeBoxes_75 ?_
        refine lv_iload_n hx hb dMd_makeBoxes_78 rfl (lv_at hl 2 rfl) ?_
        obtain ⟨h_27, hv⟩ := hv
        refine va_iald hx hb hK hP 6 5 rfl rfl h_27 dMd_makeBoxes_79 ?_
        refine lv_icmp_ne (tgt := 102) hx hb dMd_makeBoxes_80 (by decide) (fun c_28 => ?_) (fun c_28 => ?_)
        · have hv := hv.1 c_28
          exact j102 v2 v3 f_groups f_rowSize f_group f_row f_channelOf f_spreads f_boxMany hv _ _ _ hP hD hS (lv_sub hl [0, 1, 2, 3] rfl)
        · have hv := hv.2 c_28
          refine lv_aload_n hx hb dMd_makeBoxes_83 rfl (lv_at hl 0 rfl) ?_
          refine va_get (D := (dC, dI)) (ci := 8) (v := .ref q_boxMany) (C := RMd) (T := TMd) (N := 31) hx hb hB hiMd hown hK hP 0 rfl rfl 15 (by decide) hL38 (fun _ h9 => h9) rfl dMd_makeBoxes_84 ?_
          refine lv_iload_n hx hb dMd_makeBoxes_87 rfl (lv_at hl 3 rfl) ?_
          obtain ⟨h_29, hv⟩ := hv
          refine va_iald hx hb hK hP 7 6 rfl rfl h_29 dMd_makeBoxes_88 ?_
          refine lv_aload_n hx hb dMd_makeBoxes_89 rfl (lv_at hl 0 rfl) ?_
          refine va_get (D := (dC, dI)) (ci := 8) (v := .ref q_boxMany) (C := RMd) (T := TMd) (N := 31) hx hb hB hiMd hown hK hP 0 rfl rfl 15 (by decide) hL38 (fun _ h9 => h9) rfl dMd_makeBoxes_90 ?_
          refine lv_iload_n hx hb dMd_makeBoxes_93 rfl (lv_at hl 2 rfl) ?_
          obtain ⟨h_30, hv⟩ := hv
          refine va_iald hx hb hK hP 7 6 rfl rfl h_30 dMd_makeBoxes_94 ?_
          refine lv_icmp_le (tgt := 102) hx hb dMd_makeBoxes_95 (by decide) (fun c_31 => ?_) (fun c_31 => ?_)
          · have hv := hv.1 c_31
            exact j102 v2 v3 f_groups f_rowSize f_group f_row f_channelOf f_spreads f_boxMany hv _ _ _ hP hD hS (lv_sub hl [0, 1, 2, 3] rfl)
          · have hv := hv.2 c_31
            exact j98 v3 f_groups f_rowSize f_group f_row f_channelOf f_spreads f_boxMany hv _ _ _ hP hD hS (lv_sub hl [0, 1, 3] rfl))
  rw [eG]
  refine lv_aload_n hx hb dMd_makeBoxes_0 rfl (lv_at hl 0 rfl) ?_
  refine lv_iconst (v := 1) hx hb dMd_makeBoxes_1 (by decide) ?_
  refine va_put (D := (dC, dI)) (ci := 8) (v := .int 1) (ty := .int) (C := RMd) (T := TMd) (N := 31) hx hb hB hiMd tMd tMd_ok nMd hown hK hP hD hS 0 rfl rfl 10 (by decide) hL130 (fun _ h9 => h9) rfl (by decide +kernel) rfl rfl (Nat.le_of_ble_eq_true rfl) dMd_makeBoxes_2 (fun H locs hP hD hS => ?_)
  have hP : va_P (dC, dI) vwCl (wdMd_makeBoxes q_this q_colours q_many q_group q_row q_channelOf q_spreads q_boxMany r_samples r_isGiven r_gives r_there r_groupMany r_means r_sums r_palette r_has r_takers r_takenSums r_order r_before r_roundSums r_carried c_colours c_many c_group c_row c_channelOf c_spreads c_boxMany n_colours n_many n_group n_row n_channelOf n_spreads n_boxMany f_thrown f_width f_height f_different 1 f_rowSize f_ready f_size f_rounds f_colours f_many f_group f_row f_channelOf f_spreads f_boxMany) H := hP
  have hD : va_D A (wdMd_makeBoxes q_this q_colours q_many q_group q_row q_channelOf q_spreads q_boxMany r_samples r_isGiven r_gives r_there r_groupMany r_means r_sums r_palette r_has r_takers r_takenSums r_order r_before r_roundSums r_carried c_colours c_many c_group c_row c_channelOf c_spreads c_boxMany n_colours n_many n_group n_row n_channelOf n_spreads n_boxMany f_thrown f_width f_height f_different 1 f_rowSize f_ready f_size f_rounds f_colours f_many f_group f_row f_channelOf f_spreads f_boxMany) := hD
  refine lv_iconst (v := 0) hx hb dMd_makeBoxes_5 (by decide) ?_
  refine lv_istore_n (lv' := [(2, .int 0), (0, .ref q_this), (1, .int x1)]) hx hb dMd_makeBoxes_6 rfl hl (by decide) rfl (fun ls hl => ?_)
  rw [eK7, eG] at hv
  exact hv _ _ _ hP hD hS (lv_sub hl [1, 2, 0] rfl)
abbrev wdMd_findMean (q_this q_colours q_many q_group q_groupMany q_means q_sums r_samples r_isGiven r_gives r_row r_channelOf r_spreads r_boxMany r_there r_palette r_has r_takers r_takenSums r_order r_before r_roundSums r_carried : Nat) (c_colours c_many c_group c_groupMany c_means c_sums : ClassId) (n_colours n_many n_group n_groupMany n_means n_sums : Nat) (f_thrown : Int32) (f_width : Int32) (f_height : Int32) (f_different : Int32) (f_groups : Int32) (f_rowSize : Int32) (f_ready : Int32) (f_size : Int32) (f_rounds : Int32) (f_colours : Nat → Int32) (f_many : Nat → Int32) (f_group : Nat → Int32) (f_groupMany : Nat → Int64) (f_means : Nat → Int32) (f_sums : Nat → Int64) : va_W := [(q_this, .inr (8, [.int f_thrown, .int f_width, .int f_height, .ref r_samples, .ref r_isGiven, .ref r_gives, .int f_different, .ref q_colours, .ref q_many, .ref q_group, .int f_groups, .ref r_row, .int f_rowSize, .ref r_channelOf, .ref r_spreads, .ref r_boxMany, .ref r_there, .ref q_groupMany, .ref q_means, .ref q_sums, .int f_ready, .int f_size, .ref r_palette, .ref r_has, .ref r_takers, .ref r_takenSums, .ref r_order, .ref r_before, .int f_rounds, .ref r_roundSums, .ref r_carried])), (q_colours, .inl (c_colours, n_colours, .inl f_colours)), (q_many, .inl (c_many, n_many, .inl f_many)), (q_group, .inl (c_group, n_group, .inl f_group)), (q_groupMany, .inl (c_groupMany, n_groupMany, .inr (.inl f_groupMany))), (q_means, .inl (c_means, n_means, .inl f_means)), (q_sums, .inl (c_sums, n_sums, .inr (.inl f_sums)))]
set_option maxHeartbeats 4000000 in
set_option maxRecDepth 100000 in
theorem metMd_findMean (l : Launch) (dC : Nat → ClassId) (dI : Nat → Nat → Nat) (q_this q_colours q_many q_group q_groupMany q_means q_sums r_samples r_isGiven r_gives r_row r_channelOf r_spreads r_boxMany r_there r_palette r_has r_takers r_takenSums r_order r_before r_roundSums r_carried : Nat) (c_colours c_many c_group c_groupMany c_means c_sums : ClassId) (n_colours n_many n_group n_groupMany n_means n_sums : Nat) (sz : Nat) (f_thrown : Int32) (f_width : Int32) (f_height : Int32) (f_different : Int32) (f_groups : Int32) (f_rowSize : Int32) (f_ready : Int32) (f_size : Int32) (f_rounds : Int32) (f_colours : Nat → Int32) (f_many : Nat → Int32) (f_group : Nat → Int32) (f_groupMany : Nat → Int64) (f_means : Nat → Int32) (f_sums : Nat → Int64) (x1 : Int32) {post : (Nat → Int64) → (Nat → Int32) → (Nat → Int64) → Prop} (hw : wpMd_findMean n_colours n_many n_group n_groupMany n_means n_sums f_thrown f_width f_height f_different f_groups f_rowSize f_ready f_size f_rounds f_colours f_many f_group f_groupMany f_means f_sums x1 post) : Met l yMd_findMean (.code yMd_findMean bMd_findMean 6 none :: BIG) ({ frames := 0, cells := 0, slots := 0, locals := 0 }) (va_Pc [.ref q_this, .int x1] (gx_pre (dC, dI) vwCl (wdMd_findMean q_this q_colours q_many q_group q_groupMany q_means q_sums r_samples r_isGiven r_gives r_row r_channelOf r_spreads r_boxMany r_there r_palette r_has r_takers r_takenSums r_order r_before r_roundSums r_carried c_colours c_many c_group c_groupMany c_means c_sums n_colours n_many n_group n_groupMany n_means n_sums f_thrown f_width f_height f_different f_groups f_rowSize f_ready f_size f_rounds f_colours f_many f_group f_groupMany f_means f_sums) [(c_colours, .int), (c_many, .int), (c_group, .int), (c_groupMany, .long), (c_means, .int), (c_sums, .long)] sz)) (va_Qv (fun (u : (Nat → Int64) × (Nat → Int32) × (Nat → Int64)) => post u.1 u.2.1 u.2.2) (gx_B (dC, dI) vwCl (va_A (wdMd_findMean q_this q_colours q_many q_group q_groupMany q_means q_sums r_samples r_isGiven r_gives r_row r_channelOf r_spreads r_boxMany r_there r_palette r_has r_takers r_takenSums r_order r_before r_roundSums r_carried c_colours c_many c_group c_groupMany c_means c_sums n_colours n_many n_group n_groupMany n_means n_sums f_thrown f_width f_height f_different f_groups f_rowSize f_ready f_size f_rounds f_colours f_many f_group f_groupMany f_means f_sums) sz) (fun (u : (Nat → Int64) × (Nat → Int32) × (Nat → Int64)) => (wdMd_findMean q_this q_colours q_many q_group q_groupMany q_means q_sums r_samples r_isGiven r_gives r_row r_channelOf r_spreads r_boxMany r_there r_palette r_has r_takers r_takenSums r_order r_before r_roundSums r_carried c_colours c_many c_group c_groupMany c_means c_sums n_colours n_many n_group n_groupMany n_means n_sums f_thrown f_width f_height f_different f_groups f_rowSize f_ready f_size f_rounds f_colours f_many f_group u.1 u.2.1 u.2.2))) (va_A (wdMd_findMean q_this q_colours q_many q_group q_groupMany q_means q_sums r_samples r_isGiven r_gives r_row r_channelOf r_spreads r_boxMany r_there r_palette r_has r_takers r_takenSums r_order r_before r_roundSums r_carried c_colours c_many c_group c_groupMany c_means c_sums n_colours n_many n_group n_groupMany n_means n_sums f_thrown f_width f_height f_different f_groups f_rowSize f_ready f_size f_rounds f_colours f_many f_group f_groupMany f_means f_sums) sz)) 0 0 (va_A (wdMd_findMean q_this q_colours q_many q_group q_groupMany q_means q_sums r_samples r_isGiven r_gives r_row r_channelOf r_spreads r_boxMany r_there r_palette r_has r_takers r_takenSums r_order r_before r_roundSums r_carried c_colours c_many c_group c_groupMany c_means c_sums n_colours n_many n_group n_groupMany n_means n_sums f_thrown f_width f_height f_different f_groups f_rowSize f_ready f_size f_rounds f_colours f_many f_group f_groupMany f_means f_sums) sz) := by
  refine Met.ofW (cc := bMd_findMean) (maxL := 6) (ret := none) (by decide) rfl ?_
  intro p e s m args below meth c s₁ B hml hv
  obtain ⟨rfl, hsz, hP, hK, hD0, hZ⟩ := hv
  have hx := B.exec
  have hb := B.bytes
  have hr := B.returns
  have hts := atoms_spec (ws := (.code yMd_findMean bMd_findMean 6 none :: BIG)) B.pre
  have hB : ∀ w ∈ BIG, w.before _ s = true := fun w h => hts w (List.mem_cons_of_mem _ h)
  have hown : s.vm.findClass RMd = some m.cls := findClass_of_methodNamed B.named
  have hlocks := B.notSynchronized
  subst hsz
  have hD := hD0.self (sz := s.heap.size)
  generalize hAe : va_A (wdMd_findMean q_this q_colours q_many q_group q_groupMany q_means q_sums r_samples r_isGiven r_gives r_row r_channelOf r_spreads r_boxMany r_there r_palette r_has r_takers r_takenSums r_order r_before r_roundSums r_carried c_colours c_many c_group c_groupMany c_means c_sums n_colours n_many n_group n_groupMany n_means n_sums f_thrown f_width f_height f_different f_groups f_rowSize f_ready f_size f_rounds f_colours f_many f_group f_groupMany f_means f_sums) s.heap.size = A at hD hZ ⊢
  have hA : ∀ q : Nat, s.heap.size ≤ q → A q := fun q h => by rw [← hAe]; exact Or.inr h
  have hS : va_S A s.heap s.heap [] := va_S.rf
  have hl := lv_entry ([.ref q_this, .int x1]) (n := 6) (Nat.le_of_ble_eq_true rfl)
  rw [lg_entry_eq]
  generalize (lg_sl ([.ref q_this, .int x1]) ++ List.replicate (6 - (lg_sl ([.ref q_this, .int x1])).length) Slot.unset).toArray = ls at hl ⊢
  have hl : lv_has ls 6 [(0, .ref q_this), (1, .int x1)] := hl
  have hL20 := (hB _ bw622)
  have hL23 := (hB _ bw623)
  have hL26 := (hB _ bw624)
  have hL44 := (hB _ bw632)
  have hL48 := (hB _ bw633)
  have hL51 := (hB _ bw634)
  have hL108 := (hB _ bw621)
  refine gx_abs (fun G eG => ?_)
  obtain ⟨K5, eK5⟩ : ∃ K : Int64 → Int32 → (Nat → Int64) → (Nat → Int32) → (Nat → Int64) → Prop, K = fun v2 v4 f_groupMany f_means f_sums => ∀ (H : Heap) (locs : List Loc) (ls : Array Slot), va_P (dC, dI) vwCl (wdMd_findMean q_this q_colours q_many q_group q_groupMany q_means q_sums r_samples r_isGiven r_gives r_row r_channelOf r_spreads r_boxMany r_there r_palette r_has r_takers r_takenSums r_order r_before r_roundSums r_carried c_colours c_many c_group c_groupMany c_means c_sums n_colours n_many n_group n_groupMany n_means n_sums f_thrown f_width f_height f_different f_groups f_rowSize f_ready f_size f_rounds f_colours f_many f_group f_groupMany f_means f_sums) H → va_D A (wdMd_findMean q_this q_colours q_many q_group q_groupMany q_means q_sums r_samples r_isGiven r_gives r_row r_channelOf r_spreads r_boxMany r_there r_palette r_has r_takers r_takenSums r_order r_before r_roundSums r_carried c_colours c_many c_group c_groupMany c_means c_sums n_colours n_many n_group n_groupMany n_means n_sums f_thrown f_width f_height f_different f_groups f_rowSize f_ready f_size f_rounds f_colours f_many f_group f_groupMany f_means f_sums) → va_S A s.heap H locs → lv_has ls 6 [(0, .ref q_this), (1, .int x1), (2, .long v2), (4, .int v4)] → G H locs 0 0 (F0 m 5 ls []) := ⟨_, rfl⟩
  obtain ⟨K28, eK28⟩ : ∃ K : Int64 → Int32 → (Nat → Int64) → (Nat → Int32) → (Nat → Int64) → Prop, K = fun v2 v4 f_groupMany f_means f_sums => ∀ (H : Heap) (locs : List Loc) (ls : Array Slot), va_P (dC, dI) vwCl (wdMd_findMean q_this q_colours q_many q_group q_groupMany q_means q_sums r_samples r_isGiven r_gives r_row r_channelOf r_spreads r_boxMany r_there r_palette r_has r_takers r_takenSums r_order r_before r_roundSums r_carried c_colours c_many c_group c_groupMany c_means c_sums n_colours n_many n_group n_groupMany n_means n_sums f_thrown f_width f_height f_different f_groups f_rowSize f_ready f_size f_rounds f_colours f_many f_group f_groupMany f_means f_sums) H → va_D A (wdMd_findMean q_this q_colours q_many q_group q_groupMany q_means q_sums r_samples r_isGiven r_gives r_row r_channelOf r_spreads r_boxMany r_there r_palette r_has r_takers r_takenSums r_order r_before r_roundSums r_carried c_colours c_many c_group c_groupMany c_means c_sums n_colours n_many n_group n_groupMany n_means n_sums f_thrown f_width f_height f_different f_groups f_rowSize f_ready f_size f_rounds f_colours f_many f_group f_groupMany f_means f_sums) → va_S A s.heap H locs → lv_has ls 6 [(0, .ref q_this), (1, .int x1), (2, .long v2), (4, .int v4)] → G H locs 0 0 (F0 m 28 ls []) := ⟨_, rfl⟩
  obtain ⟨K62, eK62⟩ : ∃ K : Int64 → Int32 → Int32 → (Nat → Int64) → (Nat → Int32) → (Nat → Int64) → Prop, K = fun v2 v4 v5 f_groupMany f_means f_sums => ∀ (H : Heap) (locs : List Loc) (ls : Array Slot), va_P (dC, dI) vwCl (wdMd_findMean q_this q_colours q_many q_group q_groupMany q_means q_sums r_samples r_isGiven r_gives r_row r_channelOf r_spreads r_boxMany r_there r_palette r_has r_takers r_takenSums r_order r_before r_roundSums r_carried c_colours c_many c_group c_groupMany c_means c_sums n_colours n_many n_group n_groupMany n_means n_sums f_thrown f_width f_height f_different f_groups f_rowSize f_ready f_size f_rounds f_colours f_many f_group f_groupMany f_means f_sums) H → va_D A (wdMd_findMean q_this q_colours q_many q_group q_groupMany q_means q_sums r_samples r_isGiven r_gives r_row r_channelOf r_spreads r_boxMany r_there r_palette r_has r_takers r_takenSums r_order r_before r_roundSums r_carried c_colours c_many c_group c_groupMany c_means c_sums n_colours n_many n_group n_groupMany n_means n_sums f_thrown f_width f_height f_different f_groups f_rowSize f_ready f_size f_rounds f_colours f_many f_group f_groupMany f_means f_sums) → va_S A s.heap H locs → lv_has ls 6 [(0, .ref q_this), (1, .int x1), (2, .long v2), (4, .int v4), (5, .int v5)] → G H locs 0 0 (F0 m 62 ls []) := ⟨_, rfl⟩
  obtain ⟨K122, eK122⟩ : ∃ K : Int64 → Int32 → (Nat → Int64) → (Nat → Int32) → (Nat → Int64) → Prop, K = fun v2 v4 f_groupMany f_means f_sums => ∀ (H : Heap) (locs : List Loc) (ls : Array Slot), va_P (dC, dI) vwCl (wdMd_findMean q_this q_colours q_many q_group q_groupMany q_means q_sums r_samples r_isGiven r_gives r_row r_channelOf r_spreads r_boxMany r_there r_palette r_has r_takers r_takenSums r_order r_before r_roundSums r_carried c_colours c_many c_group c_groupMany c_means c_sums n_colours n_many n_group n_groupMany n_means n_sums f_thrown f_width f_height f_different f_groups f_rowSize f_ready f_size f_rounds f_colours f_many f_group f_groupMany f_means f_sums) H → va_D A (wdMd_findMean q_this q_colours q_many q_group q_groupMany q_means q_sums r_samples r_isGiven r_gives r_row r_channelOf r_spreads r_boxMany r_there r_palette r_has r_takers r_takenSums r_order r_before r_roundSums r_carried c_colours c_many c_group c_groupMany c_means c_sums n_colours n_many n_group n_groupMany n_means n_sums f_thrown f_width f_height f_different f_groups f_rowSize f_ready f_size f_rounds f_colours f_many f_group f_groupMany f_means f_sums) → va_S A s.heap H locs → lv_has ls 6 [(0, .ref q_this), (1, .int x1), (2, .long v2), (4, .int v4)] → G H locs 0 0 (F0 m 122 ls []) := ⟨_, rfl⟩
  have j106 : ∀ (v2 : Int64) (v4 : Int32) (f_groupMany : Nat → Int64) (f_means : Nat → Int32) (f_sums : Nat → Int64), vcMd_findMean_106 n_colours n_many n_group n_groupMany n_means n_sums f_thrown f_width f_height f_different f_groups f_rowSize f_ready f_size f_rounds f_colours f_many f_group x1 K5 K28 K62 K122 post v2 v4 f_groupMany f_means f_sums → ∀ (H : Heap) (locs : List Loc) (ls : Array Slot), va_P (dC, dI) vwCl (wdMd_findMean q_this q_colours q_many q_group q_groupMany q_means q_sums r_samples r_isGiven r_gives r_row r_channelOf r_spreads r_boxMany r_there r_palette r_has r_takers r_takenSums r_order r_before r_roundSums r_carried c_colours c_many c_group c_groupMany c_means c_sums n_colours n_many n_group n_groupMany n_means n_sums f_thrown f_width f_height f_different f_groups f_rowSize f_ready f_size f_rounds f_colours f_many f_group f_groupMany f_means f_sums) H → va_D A (wdMd_findMean q_this q_colours q_many q_group q_groupMany q_means q_sums r_samples r_isGiven r_gives r_row r_channelOf r_spreads r_boxMany r_there r_palette r_has r_takers r_takenSums r_order r_before r_roundSums r_carried c_colours c_many c_group c_groupMany c_means c_sums n_colours n_many n_group n_groupMany n_means n_sums f_thrown f_width f_height f_different f_groups f_rowSize f_ready f_size f_rounds f_colours f_many f_group f_groupMany f_means f_sums) → va_S A s.heap H locs → lv_has ls 6 [(0, .ref q_this), (1, .int x1), (2, .long v2), (4, .int v4)] → G H locs 0 0 (F0 m 106 ls []) := by
    intro v2 v4 f_groupMany f_means f_sums hv H locs ls hP hD hS hl
    rw [eG]
    unfold vcMd_findMean_106 at hv
    refine lv_iinc (v := v4 + 1) (lv' := [(4, .int (v4 + 1)), (0, .ref q_this), (1, .int x1), (2, .long v2)]) hx hb dMd_findMean_106 hl (k := 3) rfl rfl (by decide) rfl (fun ls hl => ?_)
    refine lv_goto (tgt := 28) hx hb dMd_findMean_109 (by decide) ?_
    rw [eK28, eG] at hv
    exact hv _ _ _ hP hD hS (lv_sub hl [1, 2, 3, 0] rfl)
  rw [eG] at j106
  unfold wpMd_findMean at hw
  have hv := hw K5 K28 K62 K122
  have hv := hv (by
    intro v2 v4 f_groupMany f_means f_sums hv
    rw [eK5]
    intro H locs ls hP hD hS hl
    rw [eG]
    unfold vcMd_findMean_5 at hv
    refine lv_iload hx hb dMd_findMean_5 (lv_at hl 3 rfl) ?_
    refine lv_iconst (v := 4) hx hb dMd_findMean_7 (by decide) ?_
    refine lv_icmp_ge (tgt := 25) hx hb dMd_findMean_8 (by decide) (fun c_1 => ?_) (fun c_1 => ?_)
    · have hv := hv.1 c_1
      refine lv_iconst (v := 0) hx hb dMd_findMean_25 (by decide) ?_
      refine lv_istore (lv' := [(4, .int 0), (0, .ref q_this), (1, .int x1), (2, .long v2)]) hx hb dMd_findMean_26 hl (by decide) rfl (fun ls hl => ?_)
      rw [eK28, eG] at hv
      exact hv _ _ _ hP hD hS (lv_sub hl [1, 2, 3, 0] rfl)
    · have hv := hv.2 c_1
      refine lv_aload_n hx hb dMd_findMean_11 rfl (lv_at hl 0 rfl) ?_
      refine va_get (D := (dC, dI)) (ci := 8) (v := .ref q_sums) (C := RMd) (T := TMd) (N := 31) hx hb hB hiMd hown hK hP 0 rfl rfl 19 (by decide) hL51 (fun _ h9 => h9) rfl dMd_findMean_12 ?_
      refine lv_iload hx hb dMd_findMean_15 (lv_at hl 3 rfl) ?_
      refine lv_lconst (v := 0) hx hb dMd_findMean_17 (by decide) ?_
      obtain ⟨h_2, hv⟩ := hv
      refine va_last hx hb hK hP hD hS 6 5 rfl rfl h_2 dMd_findMean_18 (fun H locs hP hD hS => ?_)
      have hP : va_P (dC, dI) vwCl (wdMd_findMean q_this q_colours q_many q_group q_groupMany q_means q_sums r_samples r_isGiven r_gives r_row r_channelOf r_spreads r_boxMany r_there r_palette r_has r_takers r_takenSums r_order r_before r_roundSums r_carried c_colours c_many c_group c_groupMany c_means c_sums n_colours n_many n_group n_groupMany n_means n_sums f_thrown f_width f_height f_different f_groups f_rowSize f_ready f_size f_rounds f_colours f_many f_group f_groupMany f_means (vp_updL f_sums v4.toNatClampNeg 0)) H := hP
      have hD : va_D A (wdMd_findMean q_this q_colours q_many q_group q_groupMany q_means q_sums r_samples r_isGiven r_gives r_row r_channelOf r_spreads r_boxMany r_there r_palette r_has r_takers r_takenSums r_order r_before r_roundSums r_carried c_colours c_many c_group c_groupMany c_means c_sums n_colours n_many n_group n_groupMany n_means n_sums f_thrown f_width f_height f_different f_groups f_rowSize f_ready f_size f_rounds f_colours f_many f_group f_groupMany f_means (vp_updL f_sums v4.toNatClampNeg 0)) := hD
      refine lv_iinc (v := v4 + 1) (lv' := [(4, .int (v4 + 1)), (0, .ref q_this), (1, .int x1), (2, .long v2)]) hx hb dMd_findMean_19 hl (k := 3) rfl rfl (by decide) rfl (fun ls hl => ?_)
      refine lv_goto (tgt := 5) hx hb dMd_findMean_22 (by decide) ?_
      rw [eK5, eG] at hv
      exact hv _ _ _ hP hD hS (lv_sub hl [1, 2, 3, 0] rfl))
  have hv := hv (by
    intro v2 v4 f_groupMany f_means f_sums hv
    rw [eK28]
    intro H locs ls hP hD hS hl
    rw [eG]
    unfold vcMd_findMean_28 at hv
    refine lv_iload hx hb dMd_findMean_28 (lv_at hl 3 rfl) ?_
    refine lv_aload_n hx hb dMd_findMean_30 rfl (lv_at hl 0 rfl) ?_
    refine va_get (D := (dC, dI)) (ci := 8) (v := .int f_different) (C := RMd) (T := TMd) (N := 31) hx hb hB hiMd hown hK hP 0 rfl rfl 6 (by decide) hL108 (fun _ h9 => h9) rfl dMd_findMean_31 ?_
    refine lv_icmp_ge (tgt := 112) hx hb dMd_findMean_34 (by decide) (fun c_4 => ?_) (fun c_4 => ?_)
    · have hv := hv.1 c_4
      refine lv_aload_n hx hb dMd_findMean_112 rfl (lv_at hl 0 rfl) ?_
      refine va_get (D := (dC, dI)) (ci := 8) (v := .ref q_groupMany) (C := RMd) (T := TMd) (N := 31) hx hb hB hiMd hown hK hP 0 rfl rfl 17 (by decide) hL44 (fun _ h9 => h9) rfl dMd_findMean_113 ?_
      refine lv_iload_n hx hb dMd_findMean_116 rfl (lv_at hl 1 rfl) ?_
      refine lv_lload_n hx hb dMd_findMean_117 rfl (lv_at hl 2 rfl) ?_
      obtain ⟨h_5, hv⟩ := hv
      refine va_last hx hb hK hP hD hS 4 3 rfl rfl h_5 dMd_findMean_118 (fun H locs hP hD hS => ?_)
      have hP : va_P (dC, dI) vwCl (wdMd_findMean q_this q_colours q_many q_group q_groupMany q_means q_sums r_samples r_isGiven r_gives r_row r_channelOf r_spreads r_boxMany r_there r_palette r_has r_takers r_takenSums r_order r_before r_roundSums r_carried c_colours c_many c_group c_groupMany c_means c_sums n_colours n_many n_group n_groupMany n_means n_sums f_thrown f_width f_height f_different f_groups f_rowSize f_ready f_size f_rounds f_colours f_many f_group (vp_updL f_groupMany x1.toNatClampNeg v2) f_means f_sums) H := hP
      have hD : va_D A (wdMd_findMean q_this q_colours q_many q_group q_groupMany q_means q_sums r_samples r_isGiven r_gives r_row r_channelOf r_spreads r_boxMany r_there r_palette r_has r_takers r_takenSums r_order r_before r_roundSums r_carried c_colours c_many c_group c_groupMany c_means c_sums n_colours n_many n_group n_groupMany n_means n_sums f_thrown f_width f_height f_different f_groups f_rowSize f_ready f_size f_rounds f_colours f_many f_group (vp_updL f_groupMany x1.toNatClampNeg v2) f_means f_sums) := hD
      refine lv_iconst (v := 0) hx hb dMd_findMean_119 (by decide) ?_
      refine lv_istore (lv' := [(4, .int 0), (0, .ref q_this), (1, .int x1), (2, .long v2)]) hx hb dMd_findMean_120 hl (by decide) rfl (fun ls hl => ?_)
      rw [eK122, eG] at hv
      exact hv _ _ _ hP hD hS (lv_sub hl [1, 2, 3, 0] rfl)
    · have hv := hv.2 c_4
      refine lv_aload_n hx hb dMd_findMean_37 rfl (lv_at hl 0 rfl) ?_
      refine va_get (D := (dC, dI)) (ci := 8) (v := .ref q_group) (C := RMd) (T := TMd) (N := 31) hx hb hB hiMd hown hK hP 0 rfl rfl 9 (by decide) hL26 (fun _ h9 => h9) rfl dMd_findMean_38 ?_
      refine lv_iload hx hb dMd_findMean_41 (lv_at hl 3 rfl) ?_
      obtain ⟨h_7, hv⟩ := hv
      refine va_iald hx hb hK hP 3 2 rfl rfl h_7 dMd_findMean_43 ?_
      refine lv_iload_n hx hb dMd_findMean_44 rfl (lv_at hl 1 rfl) ?_
      refine lv_icmp_ne (tgt := 106) hx hb dMd_findMean_45 (by decide) (fun c_8 => ?_) (fun c_8 => ?_)
      · have hv := hv.1 c_8
        exact j106 v2 v4 f_groupMany f_means f_sums hv _ _ _ hP hD hS (lv_sub hl [0, 1, 2, 3] rfl)
      · have hv := hv.2 c_8
        refine lv_lload_n hx hb dMd_findMean_48 rfl (lv_at hl 2 rfl) ?_
        refine lv_aload_n hx hb dMd_findMean_49 rfl (lv_at hl 0 rfl) ?_
        refine va_get (D := (dC, dI)) (ci := 8) (v := .ref q_many) (C := RMd) (T := TMd) (N := 31) hx hb hB hiMd hown hK hP 0 rfl rfl 8 (by decide) hL23 (fun _ h9 => h9) rfl dMd_findMean_50 ?_
        refine lv_iload hx hb dMd_findMean_53 (lv_at hl 3 rfl) ?_
        obtain ⟨h_9, hv⟩ := hv
        refine va_iald hx hb hK hP 2 1 rfl rfl h_9 dMd_findMean_55 ?_
        refine lv_i2l hx hb dMd_findMean_56 rfl ?_
        refine lv_ladd hx hb dMd_findMean_57 ?_
        refine lv_topl (fun v2_10 ev2_10 => ?_)
        have hv := hv v2_10 ev2_10
        refine lv_lstore_n (lv' := [(2, .long v2_10), (0, .ref q_this), (1, .int x1), (4, .int v4)]) hx hb dMd_findMean_58 rfl hl (by decide) rfl (fun ls hl => ?_)
        refine lv_iconst (v := 0) hx hb dMd_findMean_59 (by decide) ?_
        refine lv_istore (lv' := [(5, .int 0), (2, .long v2_10), (0, .ref q_this), (1, .int x1), (4, .int v4)]) hx hb dMd_findMean_60 hl (by decide) rfl (fun ls hl => ?_)
        rw [eK62, eG] at hv
        exact hv _ _ _ hP hD hS (lv_sub hl [2, 3, 1, 4, 0] rfl))
  have hv := hv (by
    intro v2 v4 v5 f_groupMany f_means f_sums hv
    rw [eK62]
    intro H locs ls hP hD hS hl
    rw [eG]
    unfold vcMd_findMean_62 at hv
    refine lv_iload hx hb dMd_findMean_62 (lv_at hl 4 rfl) ?_
    refine lv_iconst (v := 4) hx hb dMd_findMean_64 (by decide) ?_
    refine lv_icmp_ge (tgt := 106) hx hb dMd_findMean_65 (by decide) (fun c_11 => ?_) (fun c_11 => ?_)
    · have hv := hv.1 c_11
      exact j106 v2 v4 f_groupMany f_means f_sums hv _ _ _ hP hD hS (lv_sub hl [0, 1, 2, 3] rfl)
    · have hv := hv.2 c_11
      refine lv_aload_n hx hb dMd_findMean_68 rfl (lv_at hl 0 rfl) ?_
      refine va_get (D := (dC, dI)) (ci := 8) (v := .ref q_sums) (C := RMd) (T := TMd) (N := 31) hx hb hB hiMd hown hK hP 0 rfl rfl 19 (by decide) hL51 (fun _ h9 => h9) rfl dMd_findMean_69 ?_
      refine lv_iload hx hb dMd_findMean_72 (lv_at hl 4 rfl) ?_
      refine lv_dup2_11 hx hb dMd_findMean_74 rfl rfl ?_
      obtain ⟨h_12, hv⟩ := hv
      refine va_lald hx hb hK hP 6 5 rfl rfl h_12 dMd_findMean_75 ?_
      refine lv_aload_n hx hb dMd_findMean_76 rfl (lv_at hl 0 rfl) ?_
      refine va_get (D := (dC, dI)) (ci := 8) (v := .ref q_many) (C := RMd) (T := TMd) (N := 31) hx hb hB hiMd hown hK hP 0 rfl rfl 8 (by decide) hL23 (fun _ h9 => h9) rfl dMd_findMean_77 ?_
      refine lv_iload hx hb dMd_findMean_80 (lv_at hl 3 rfl) ?_
      obtain ⟨h_13, hv⟩ := hv
      refine va_iald hx hb hK hP 2 1 rfl rfl h_13 dMd_findMean_82 ?_
      refine lv_i2l hx hb dMd_findMean_83 rfl ?_
      refine lv_aload_n hx hb dMd_findMean_84 rfl (lv_at hl 0 rfl) ?_
      refine va_get (D := (dC, dI)) (ci := 8) (v := .ref q_colours) (C := RMd) (T := TMd) (N := 31) hx hb hB hiMd hown hK hP 0 rfl rfl 7 (by decide) hL20 (fun _ h9 => h9) rfl dMd_findMean_85 ?_
      refine lv_iconst (v := 4) hx hb dMd_findMean_88 (by decide) ?_
      refine lv_iload hx hb dMd_findMean_89 (lv_at hl 3 rfl) ?_
      refine lv_imul hx hb dMd_findMean_91 ?_
      refine lv_iload hx hb dMd_findMean_92 (lv_at hl 4 rfl) ?_
      refine lv_iadd hx hb dMd_findMean_94 ?_
      obtain ⟨h_14, hv⟩ := hv
      refine va_iald hx hb hK hP 1 0 rfl rfl h_14 dMd_findMean_95 ?_
      refine lv_i2l hx hb dMd_findMean_96 rfl ?_
      refine lv_lmul hx hb dMd_findMean_97 ?_
      refine lv_ladd hx hb dMd_findMean_98 ?_
      obtain ⟨h_15, hv⟩ := hv
      refine va_last hx hb hK hP hD hS 6 5 rfl rfl h_15 dMd_findMean_99 (fun H locs hP hD hS => ?_)
      have hP : va_P (dC, dI) vwCl (wdMd_findMean q_this q_colours q_many q_group q_groupMany q_means q_sums r_samples r_isGiven r_gives r_row r_channelOf r_spreads r_boxMany r_there r_palette r_has r_takers r_takenSums r_order r_before r_roundSums r_carried c_colours c_many c_group c_groupMany c_means c_sums n_colours n_many n_group n_groupMany n_means n_sums f_thrown f_width f_height f_different f_groups f_rowSize f_ready f_size f_rounds f_colours f_many f_group f_groupMany f_means (vp_updL f_sums v5.toNatClampNeg ((f_sums v5.toNatClampNeg) + (((f_many v4.toNatClampNeg).toInt64) * ((f_colours ((4 * v4) + v5).toNatClampNeg).toInt64))))) H := hP
      have hD : va_D A (wdMd_findMean q_this q_colours q_many q_group q_groupMany q_means q_sums r_samples r_isGiven r_gives r_row r_channelOf r_spreads r_boxMany r_there r_palette r_has r_takers r_takenSums r_order r_before r_roundSums r_carried c_colours c_many c_group c_groupMany c_means c_sums n_colours n_many n_group n_groupMany n_means n_sums f_thrown f_width f_height f_different f_groups f_rowSize f_ready f_size f_rounds f_colours f_many f_group f_groupMany f_means (vp_updL f_sums v5.toNatClampNeg ((f_sums v5.toNatClampNeg) + (((f_many v4.toNatClampNeg).toInt64) * ((f_colours ((4 * v4) + v5).toNatClampNeg).toInt64))))) := hD
      refine lv_iinc (v := v5 + 1) (lv' := [(5, .int (v5 + 1)), (0, .ref q_this), (1, .int x1), (2, .long v2), (4, .int v4)]) hx hb dMd_findMean_100 hl (k := 4) rfl rfl (by decide) rfl (fun ls hl => ?_)
      refine lv_goto (tgt := 62) hx hb dMd_findMean_103 (by decide) ?_
      rw [eK62, eG] at hv
      exact hv _ _ _ hP hD hS (lv_sub hl [1, 2, 3, 4, 0] rfl))
  have hv := hv (by
    intro v2 v4 f_groupMany f_means f_sums hv
    rw [eK122]
    intro H locs ls hP hD hS hl
    rw [eG]
    unfold vcMd_findMean_122 at hv
    refine lv_iload hx hb dMd_findMean_122 (lv_at hl 3 rfl) ?_
    refine lv_iconst (v := 4) hx hb dMd_findMean_124 (by decide) ?_
    refine lv_icmp_ge (tgt := 165) hx hb dMd_findMean_125 (by decide) (fun c_17 => ?_) (fun c_17 => ?_)
    · have hv := hv.1 c_17
      exact W.vret hx hb hr (fun t ht hW => ⟨⟨(f_groupMany, f_means, f_sums), rfl, hv, by rw [ht]; exact hP, hD⟩, hS.F ht⟩) hS.2.2 dMd_findMean_165
    · have hv := hv.2 c_17
      refine lv_aload_n hx hb dMd_findMean_128 rfl (lv_at hl 0 rfl) ?_
      refine va_get (D := (dC, dI)) (ci := 8) (v := .ref q_means) (C := RMd) (T := TMd) (N := 31) hx hb hB hiMd hown hK hP 0 rfl rfl 18 (by decide) hL48 (fun _ h9 => h9) rfl dMd_findMean_129 ?_
      refine lv_iconst (v := 4) hx hb dMd_findMean_132 (by decide) ?_
      refine lv_iload_n hx hb dMd_findMean_133 rfl (lv_at hl 1 rfl) ?_
      refine lv_imul hx hb dMd_findMean_134 ?_
      refine lv_iload hx hb dMd_findMean_135 (lv_at hl 3 rfl) ?_
      refine lv_iadd hx hb dMd_findMean_137 ?_
      refine lv_ldc2 (v := 2) hx hb hown (hB _ bw746) dMd_findMean_138 ?_
      refine lv_aload_n hx hb dMd_findMean_141 rfl (lv_at hl 0 rfl) ?_
      refine va_get (D := (dC, dI)) (ci := 8) (v := .ref q_sums) (C := RMd) (T := TMd) (N := 31) hx hb hB hiMd hown hK hP 0 rfl rfl 19 (by decide) hL51 (fun _ h9 => h9) rfl dMd_findMean_142 ?_
      refine lv_iload hx hb dMd_findMean_145 (lv_at hl 3 rfl) ?_
      obtain ⟨h_18, hv⟩ := hv
      refine va_lald hx hb hK hP 6 5 rfl rfl h_18 dMd_findMean_147 ?_
      refine lv_lmul hx hb dMd_findMean_148 ?_
      refine lv_lload_n hx hb dMd_findMean_149 rfl (lv_at hl 2 rfl) ?_
      refine lv_ladd hx hb dMd_findMean_150 ?_
      refine lv_ldc2 (v := 2) hx hb hown (hB _ bw746) dMd_findMean_151 ?_
      refine lv_lload_n hx hb dMd_findMean_154 rfl (lv_at hl 2 rfl) ?_
      refine lv_lmul hx hb dMd_findMean_155 ?_
      obtain ⟨h_19, hv⟩ := hv
      refine lv_ldiv hx hb dMd_findMean_156 h_19 ?_
      refine lv_l2i hx hb dMd_findMean_157 rfl ?_
      obtain ⟨h_20, hv⟩ := hv
      refine va_iast hx hb hK hP hD hS 5 4 rfl rfl h_20 dMd_findMean_158 (fun H locs hP hD hS => ?_)
      have hP : va_P (dC, dI) vwCl (wdMd_findMean q_this q_colours q_many q_group q_groupMany q_means q_sums r_samples r_isGiven r_gives r_row r_channelOf r_spreads r_boxMany r_there r_palette r_has r_takers r_takenSums r_order r_before r_roundSums r_carried c_colours c_many c_group c_groupMany c_means c_sums n_colours n_many n_group n_groupMany n_means n_sums f_thrown f_width f_height f_different f_groups f_rowSize f_ready f_size f_rounds f_colours f_many f_group f_groupMany (upd f_means ((4 * x1) + v4).toNatClampNeg ((((2 * (f_sums v4.toNatClampNeg)) + v2) / (2 * v2)).toInt32)) f_sums) H := hP
      have hD : va_D A (wdMd_findMean q_this q_colours q_many q_group q_groupMany q_means q_sums r_samples r_isGiven r_gives r_row r_channelOf r_spreads r_boxMany r_there r_palette r_has r_takers r_takenSums r_order r_before r_roundSums r_carried c_colours c_many c_group c_groupMany c_means c_sums n_colours n_many n_group n_groupMany n_means n_sums f_thrown f_width f_height f_different f_groups f_rowSize f_ready f_size f_rounds f_colours f_many f_group f_groupMany (upd f_means ((4 * x1) + v4).toNatClampNeg ((((2 * (f_sums v4.toNatClampNeg)) + v2) / (2 * v2)).toInt32)) f_sums) := hD
      refine lv_iinc (v := v4 + 1) (lv' := [(4, .int (v4 + 1)), (0, .ref q_this), (1, .int x1), (2, .long v2)]) hx hb dMd_findMean_159 hl (k := 3) rfl rfl (by decide) rfl (fun ls hl => ?_)
      refine lv_goto (tgt := 122) hx hb dMd_findMean_162 (by decide) ?_
      rw [eK122, eG] at hv
      exact hv _ _ _ hP hD hS (lv_sub hl [1, 2, 3, 0] rfl))
  rw [eG]
  refine lv_lconst (v := 0) hx hb dMd_findMean_0 (by decide) ?_
  refine lv_lstore_n (lv' := [(2, .long 0), (0, .ref q_this), (1, .int x1)]) hx hb dMd_findMean_1 rfl hl (by decide) rfl (fun ls hl => ?_)
  refine lv_iconst (v := 0) hx hb dMd_findMean_2 (by decide) ?_
  refine lv_istore (lv' := [(4, .int 0), (2, .long 0), (0, .ref q_this), (1, .int x1)]) hx hb dMd_findMean_3 hl (by decide) rfl (fun ls hl => ?_)
  rw [eK5, eG] at hv
  exact hv _ _ _ hP hD hS (lv_sub hl [2, 3, 1, 0] rfl)
abbrev wdMd_far (q_a0 q_a2 : Nat) (c_a0 c_a2 : ClassId) (n_a0 n_a2 : Nat) (f_a0 : Nat → Int32) (f_a2 : Nat → Int32) : va_W := [(q_a0, .inl (c_a0, n_a0, .inl f_a0)), (q_a2, .inl (c_a2, n_a2, .inl f_a2))]
set_option maxHeartbeats 4000000 in
set_option maxRecDepth 100000 in
theorem metMd_far (l : Launch) (dC : Nat → ClassId) (dI : Nat → Nat → Nat) (q_a0 q_a2 : Nat) (c_a0 c_a2 : ClassId) (n_a0 n_a2 : Nat) (sz : Nat) (f_a0 : Nat → Int32) (f_a2 : Nat → Int32) (x1 : Int32) (x3 : Int32) {post : Int64 → Prop} (hw : wpMd_far n_a0 n_a2 f_a0 f_a2 x1 x3 post) : Met l yMd_far (.code yMd_far bMd_far 9 (some .long) :: BIG) ({ frames := 0, cells := 0, slots := 0, locals := 0 }) (va_Pc [.ref q_a0, .int x1, .ref q_a2, .int x3] (gx_rpre (dC, dI) vwCl (wdMd_far q_a0 q_a2 c_a0 c_a2 n_a0 n_a2 f_a0 f_a2) [(c_a0, .int), (c_a2, .int)] sz)) (va_Ql (fun r (u : Unit) => post r ) (fun _ _ => True) (fun q : Nat => sz ≤ q)) 0 0 (fun q : Nat => sz ≤ q) := by
  refine Met.ofW (cc := bMd_far) (maxL := 9) (ret := (some .long)) (by decide) rfl ?_
  intro p e s m args below meth c s₁ B hml hv
  obtain ⟨rfl, hsz, hP, hK, hZ⟩ := hv
  have hx := B.exec
  have hb := B.bytes
  have hr := B.returns
  have hts := atoms_spec (ws := (.code yMd_far bMd_far 9 (some .long) :: BIG)) B.pre
  have hB : ∀ w ∈ BIG, w.before _ s = true := fun w h => hts w (List.mem_cons_of_mem _ h)
  have hown : s.vm.findClass RMd = some m.cls := findClass_of_methodNamed B.named
  have hlocks := B.notSynchronized
  subst hsz
  have hA : ∀ q : Nat, s.heap.size ≤ q → (fun q : Nat => s.heap.size ≤ q) q := fun _ h => h
  have hS : va_S (fun q : Nat => s.heap.size ≤ q) s.heap s.heap [] := va_S.rf
  have hl := lv_entry ([.ref q_a0, .int x1, .ref q_a2, .int x3]) (n := 9) (Nat.le_of_ble_eq_true rfl)
  rw [lg_entry_eq]
  generalize (lg_sl ([.ref q_a0, .int x1, .ref q_a2, .int x3]) ++ List.replicate (9 - (lg_sl ([.ref q_a0, .int x1, .ref q_a2, .int x3])).length) Slot.unset).toArray = ls at hl ⊢
  have hl : lv_has ls 9 [(0, .ref q_a0), (1, .int x1), (2, .ref q_a2), (3, .int x3)] := hl
  refine gx_abs (fun G eG => ?_)
  obtain ⟨K6, eK6⟩ : ∃ K : Int64 → Int32 → Prop, K = fun v4 v6 => ∀ (H : Heap) (locs : List Loc) (ls : Array Slot), va_P (dC, dI) vwCl (wdMd_far q_a0 q_a2 c_a0 c_a2 n_a0 n_a2 f_a0 f_a2) H → va_S (fun q : Nat => s.heap.size ≤ q) s.heap H locs → lv_has ls 9 [(0, .ref q_a0), (1, .int x1), (2, .ref q_a2), (3, .int x3), (4, .long v4), (6, .int v6)] → G H locs 0 0 (F0 m 6 ls []) := ⟨_, rfl⟩
  unfold wpMd_far at hw
  have hv := hw K6
  have hv := hv (by
    intro v4 v6 hv
    rw [eK6]
    intro H locs ls hP hS hl
    rw [eG]
    unfold vcMd_far_6 at hv
    refine lv_iload hx hb dMd_far_6 (lv_at hl 5 rfl) ?_
    refine lv_iconst (v := 4) hx hb dMd_far_8 (by decide) ?_
    refine lv_icmp_ge (tgt := 44) hx hb dMd_far_9 (by decide) (fun c_1 => ?_) (fun c_1 => ?_)
    · have hv := hv.1 c_1
      refine lv_lload hx hb dMd_far_44 (lv_at hl 4 rfl) ?_
      exact W.lret (v := v4) hx hb hr (fun t ht hW => ⟨⟨_, (), rfl, hv, trivial⟩, hS.F ht⟩) hS.2.2 dMd_far_46
    · have hv := hv.2 c_1
      refine lv_aload_n hx hb dMd_far_12 rfl (lv_at hl 0 rfl) ?_
      refine lv_iload_n hx hb dMd_far_13 rfl (lv_at hl 1 rfl) ?_
      refine lv_iload hx hb dMd_far_14 (lv_at hl 5 rfl) ?_
      refine lv_iadd hx hb dMd_far_16 ?_
      obtain ⟨h_2, hv⟩ := hv
      refine va_iald hx hb hK hP 0 0 rfl rfl h_2 dMd_far_17 ?_
      refine lv_aload_n hx hb dMd_far_18 rfl (lv_at hl 2 rfl) ?_
      refine lv_iload_n hx hb dMd_far_19 rfl (lv_at hl 3 rfl) ?_
      refine lv_iload hx hb dMd_far_20 (lv_at hl 5 rfl) ?_
      refine lv_iadd hx hb dMd_far_22 ?_
      obtain ⟨h_3, hv⟩ := hv
      refine va_iald hx hb hK hP 1 1 rfl rfl h_3 dMd_far_23 ?_
      refine lv_isub hx hb dMd_far_24 ?_
      refine lv_i2l hx hb dMd_far_25 rfl ?_
      refine lv_topl (fun v7_4 ev7_4 => ?_)
      have hv := hv v7_4 ev7_4
      refine lv_lstore (lv' := [(7, .long v7_4), (0, .ref q_a0), (1, .int x1), (2, .ref q_a2), (3, .int x3), (4, .long v4), (6, .int v6)]) hx hb dMd_far_26 hl (by decide) rfl (fun ls hl => ?_)
      refine lv_lload hx hb dMd_far_28 (lv_at hl 5 rfl) ?_
      refine lv_lload hx hb dMd_far_30 (lv_at hl 0 rfl) ?_
      refine lv_lload hx hb dMd_far_32 (lv_at hl 0 rfl) ?_
      refine lv_lmul hx hb dMd_far_34 ?_
      refine lv_ladd hx hb dMd_far_35 ?_
      refine lv_topl (fun v4_5 ev4_5 => ?_)
      have hv := hv v4_5 ev4_5
      refine lv_lstore (lv' := [(4, .long v4_5), (7, .long v7_4), (0, .ref q_a0), (1, .int x1), (2, .ref q_a2), (3, .int x3), (6, .int v6)]) hx hb dMd_far_36 hl (by decide) rfl (fun ls hl => ?_)
      refine lv_iinc (v := v6 + 1) (lv' := [(6, .int (v6 + 1)), (4, .long v4_5), (7, .long v7_4), (0, .ref q_a0), (1, .int x1), (2, .ref q_a2), (3, .int x3)]) hx hb dMd_far_38 hl (k := 6) rfl rfl (by decide) rfl (fun ls hl => ?_)
      refine lv_goto (tgt := 6) hx hb dMd_far_41 (by decide) ?_
      rw [eK6, eG] at hv
      exact hv _ _ _ hP hS (lv_sub hl [3, 4, 5, 6, 1, 0] rfl))
  rw [eG]
  refine lv_lconst (v := 0) hx hb dMd_far_0 (by decide) ?_
  refine lv_lstore (lv' := [(4, .long 0), (0, .ref q_a0), (1, .int x1), (2, .ref q_a2), (3, .int x3)]) hx hb dMd_far_1 hl (by decide) rfl (fun ls hl => ?_)
  refine lv_iconst (v := 0) hx hb dMd_far_3 (by decide) ?_
  refine lv_istore (lv' := [(6, .int 0), (4, .long 0), (0, .ref q_a0), (1, .int x1), (2, .ref q_a2), (3, .int x3)]) hx hb dMd_far_4 hl (by decide) rfl (fun ls hl => ?_)
  rw [eK6, eG] at hv
  exact hv _ _ _ hP hS (lv_sub hl [2, 3, 4, 5, 1, 0] rfl)
abbrev wdMd_far__02 (q_a0 : Nat) (c_a0 : ClassId) (n_a0 : Nat) (f_a0 : Nat → Int32) : va_W := [(q_a0, .inl (c_a0, n_a0, .inl f_a0))]
set_option maxHeartbeats 4000000 in
set_option maxRecDepth 100000 in
theorem metMd_far__02 (l : Launch) (dC : Nat → ClassId) (dI : Nat → Nat → Nat) (q_a0 : Nat) (c_a0 : ClassId) (n_a0 : Nat) (sz : Nat) (f_a0 : Nat → Int32) (x1 : Int32) (x3 : Int32) {post : Int64 → Prop} (hw : wpMd_far__02 n_a0 f_a0 x1 x3 post) : Met l yMd_far (.code yMd_far bMd_far 9 (some .long) :: BIG) ({ frames := 0, cells := 0, slots := 0, locals := 0 }) (va_Pc [.ref q_a0, .int x1, .ref q_a0, .int x3] (gx_rpre (dC, dI) vwCl (wdMd_far__02 q_a0 c_a0 n_a0 f_a0) [(c_a0, .int)] sz)) (va_Ql (fun r (u : Unit) => post r ) (fun _ _ => True) (fun q : Nat => sz ≤ q)) 0 0 (fun q : Nat => sz ≤ q) := by
  refine Met.ofW (cc := bMd_far) (maxL := 9) (ret := (some .long)) (by decide) rfl ?_
  intro p e s m args below meth c s₁ B hml hv
  obtain ⟨rfl, hsz, hP, hK, hZ⟩ := hv
  have hx := B.exec
  have hb := B.bytes
  have hr := B.returns
  have hts := atoms_spec (ws := (.code yMd_far bMd_far 9 (some .long) :: BIG)) B.pre
  have hB : ∀ w ∈ BIG, w.before _ s = true := fun w h => hts w (List.mem_cons_of_mem _ h)
  have hown : s.vm.findClass RMd = some m.cls := findClass_of_methodNamed B.named
  have hlocks := B.notSynchronized
  subst hsz
  have hA : ∀ q : Nat, s.heap.size ≤ q → (fun q : Nat => s.heap.size ≤ q) q := fun _ h => h
  have hS : va_S (fun q : Nat => s.heap.size ≤ q) s.heap s.heap [] := va_S.rf
  have hl := lv_entry ([.ref q_a0, .int x1, .ref q_a0, .int x3]) (n := 9) (Nat.le_of_ble_eq_true rfl)
  rw [lg_entry_eq]
  generalize (lg_sl ([.ref q_a0, .int x1, .ref q_a0, .int x3]) ++ List.replicate (9 - (lg_sl ([.ref q_a0, .int x1, .ref q_a0, .int x3])).length) Slot.unset).toArray = ls at hl ⊢
  have hl : lv_has ls 9 [(0, .ref q_a0), (1, .int x1), (2, .ref q_a0), (3, .int x3)] := hl
  refine gx_abs (fun G eG => ?_)
  obtain ⟨K6, eK6⟩ : ∃ K : Int64 → Int32 → Prop, K = fun v4 v6 => ∀ (H : Heap) (locs : List Loc) (ls : Array Slot), va_P (dC, dI) vwCl (wdMd_far__02 q_a0 c_a0 n_a0 f_a0) H → va_S (fun q : Nat => s.heap.size ≤ q) s.heap H locs → lv_has ls 9 [(0, .ref q_a0), (1, .int x1), (2, .ref q_a0), (3, .int x3), (4, .long v4), (6, .int v6)] → G H locs 0 0 (F0 m 6 ls []) := ⟨_, rfl⟩
  unfold wpMd_far__02 at hw
  have hv := hw K6
  have hv := hv (by
    intro v4 v6 hv
    rw [eK6]
    intro H locs ls hP hS hl
    rw [eG]
    unfold vcMd_far__02_6 at hv
    refine lv_iload hx hb dMd_far_6 (lv_at hl 5 rfl) ?_
    refine lv_iconst (v := 4) hx hb dMd_far_8 (by decide) ?_
    refine lv_icmp_ge (tgt := 44) hx hb dMd_far_9 (by decide) (fun c_1 => ?_) (fun c_1 => ?_)
    · have hv := hv.1 c_1
      refine lv_lload hx hb dMd_far_44 (lv_at hl 4 rfl) ?_
      exact W.lret (v := v4) hx hb hr (fun t ht hW => ⟨⟨_, (), rfl, hv, trivial⟩, hS.F ht⟩) hS.2.2 dMd_far_46
    · have hv := hv.2 c_1
      refine lv_aload_n hx hb dMd_far_12 rfl (lv_at hl 0 rfl) ?_
      refine lv_iload_n hx hb dMd_far_13 rfl (lv_at hl 1 rfl) ?_
      refine lv_iload hx hb dMd_far_14 (lv_at hl 5 rfl) ?_
      refine lv_iadd hx hb dMd_far_16 ?_
      obtain ⟨h_2, hv⟩ := hv
      refine va_iald hx hb hK hP 0 0 rfl rfl h_2 dMd_far_17 ?_
      refine lv_aload_n hx hb dMd_far_18 rfl (lv_at hl 2 rfl) ?_
      refine lv_iload_n hx hb dMd_far_19 rfl (lv_at hl 3 rfl) ?_
      refine lv_iload hx hb dMd_far_20 (lv_at hl 5 rfl) ?_
      refine lv_iadd hx hb dMd_far_22 ?_
      obtain ⟨h_3, hv⟩ := hv
      refine va_iald hx hb hK hP 0 0 rfl rfl h_3 dMd_far_23 ?_
      refine lv_isub hx hb dMd_far_24 ?_
      refine lv_i2l hx hb dMd_far_25 rfl ?_
      refine lv_topl (fun v7_4 ev7_4 => ?_)
      have hv := hv v7_4 ev7_4
      refine lv_lstore (lv' := [(7, .long v7_4), (0, .ref q_a0), (1, .int x1), (2, .ref q_a0), (3, .int x3), (4, .long v4), (6, .int v6)]) hx hb dMd_far_26 hl (by decide) rfl (fun ls hl => ?_)
      refine lv_lload hx hb dMd_far_28 (lv_at hl 5 rfl) ?_
      refine lv_lload hx hb dMd_far_30 (lv_at hl 0 rfl) ?_
      refine lv_lload hx hb dMd_far_32 (lv_at hl 0 rfl) ?_
      refine lv_lmul hx hb dMd_far_34 ?_
      refine lv_ladd hx hb dMd_far_35 ?_
      refine lv_topl (fun v4_5 ev4_5 => ?_)
      have hv := hv v4_5 ev4_5
      refine lv_lstore (lv' := [(4, .long v4_5), (7, .long v7_4), (0, .ref q_a0), (1, .int x1), (2, .ref q_a0), (3, .int x3), (6, .int v6)]) hx hb dMd_far_36 hl (by decide) rfl (fun ls hl => ?_)
      refine lv_iinc (v := v6 + 1) (lv' := [(6, .int (v6 + 1)), (4, .long v4_5), (7, .long v7_4), (0, .ref q_a0), (1, .int x1), (2, .ref q_a0), (3, .int x3)]) hx hb dMd_far_38 hl (k := 6) rfl rfl (by decide) rfl (fun ls hl => ?_)
      refine lv_goto (tgt := 6) hx hb dMd_far_41 (by decide) ?_
      rw [eK6, eG] at hv
      exact hv _ _ _ hP hS (lv_sub hl [3, 4, 5, 6, 1, 0] rfl))
  rw [eG]
  refine lv_lconst (v := 0) hx hb dMd_far_0 (by decide) ?_
  refine lv_lstore (lv' := [(4, .long 0), (0, .ref q_a0), (1, .int x1), (2, .ref q_a0), (3, .int x3)]) hx hb dMd_far_1 hl (by decide) rfl (fun ls hl => ?_)
  refine lv_iconst (v := 0) hx hb dMd_far_3 (by decide) ?_
  refine lv_istore (lv' := [(6, .int 0), (4, .long 0), (0, .ref q_a0), (1, .int x1), (2, .ref q_a0), (3, .int x3)]) hx hb dMd_far_4 hl (by decide) rfl (fun ls hl => ?_)
  rw [eK6, eG] at hv
  exact hv _ _ _ hP hS (lv_sub hl [2, 3, 4, 5, 1, 0] rfl)
abbrev wdMd_joinOne (q_this q_colours q_many q_group q_there q_groupMany q_means q_sums r_samples r_isGiven r_gives r_row r_channelOf r_spreads r_boxMany r_palette r_has r_takers r_takenSums r_order r_before r_roundSums r_carried : Nat) (c_colours c_many c_group c_there c_groupMany c_means c_sums : ClassId) (n_colours n_many n_group n_there n_groupMany n_means n_sums : Nat) (f_thrown : Int32) (f_width : Int32) (f_height : Int32) (f_different : Int32) (f_groups : Int32) (f_rowSize : Int32) (f_ready : Int32) (f_size : Int32) (f_rounds : Int32) (f_colours : Nat → Int32) (f_many : Nat → Int32) (f_group : Nat → Int32) (f_there : Nat → Int32) (f_groupMany : Nat → Int64) (f_means : Nat → Int32) (f_sums : Nat → Int64) : va_W := [(q_this, .inr (8, [.int f_thrown, .int f_width, .int f_height, .ref r_samples, .ref r_isGiven, .ref r_gives, .int f_different, .ref q_colours, .ref q_many, .ref q_group, .int f_groups, .ref r_row, .int f_rowSize, .ref r_channelOf, .ref r_spreads, .ref r_boxMany, .ref q_there, .ref q_groupMany, .ref q_means, .ref q_sums, .int f_ready, .int f_size, .ref r_palette, .ref r_has, .ref r_takers, .ref r_takenSums, .ref r_order, .ref r_before, .int f_rounds, .ref r_roundSums, .ref r_carried])), (q_colours, .inl (c_colours, n_colours, .inl f_colours)), (q_many, .inl (c_many, n_many, .inl f_many)), (q_group, .inl (c_group, n_group, .inl f_group)), (q_there, .inl (c_there, n_there, .inl f_there)), (q_groupMany, .inl (c_groupMany, n_groupMany, .inr (.inl f_groupMany))), (q_means, .inl (c_means, n_means, .inl f_means)), (q_sums, .inl (c_sums, n_sums, .inr (.inl f_sums)))]
set_option maxHeartbeats 4000000 in
set_option maxRecDepth 100000 in
theorem metMd_joinOne (l : Launch) (dC : Nat → ClassId) (dI : Nat → Nat → Nat) (q_this q_colours q_many q_group q_there q_groupMany q_means q_sums r_samples r_isGiven r_gives r_row r_channelOf r_spreads r_boxMany r_palette r_has r_takers r_takenSums r_order r_before r_roundSums r_carried : Nat) (c_colours c_many c_group c_there c_groupMany c_means c_sums : ClassId) (n_colours n_many n_group n_there n_groupMany n_means n_sums : Nat) (sz : Nat) (f_thrown : Int32) (f_width : Int32) (f_height : Int32) (f_different : Int32) (f_groups : Int32) (f_rowSize : Int32) (f_ready : Int32) (f_size : Int32) (f_rounds : Int32) (f_colours : Nat → Int32) (f_many : Nat → Int32) (f_group : Nat → Int32) (f_there : Nat → Int32) (f_groupMany : Nat → Int64) (f_means : Nat → Int32) (f_sums : Nat → Int64) {post : (Nat → Int32) → (Nat → Int32) → (Nat → Int64) → (Nat → Int32) → (Nat → Int64) → Prop} (hw : wpMd_joinOne n_colours n_many n_group n_there n_groupMany n_means n_sums f_thrown f_width f_height f_different f_groups f_rowSize f_ready f_size f_rounds f_colours f_many f_group f_there f_groupMany f_means f_sums post) : Met l yMd_joinOne (.code yMd_joinOne bMd_joinOne 9 none :: BIG) ({ frames := 1, cells := 0, slots := 0, locals := 28 }) (va_Pc [.ref q_this] (gx_pre (dC, dI) vwCl (wdMd_joinOne q_this q_colours q_many q_group q_there q_groupMany q_means q_sums r_samples r_isGiven r_gives r_row r_channelOf r_spreads r_boxMany r_palette r_has r_takers r_takenSums r_order r_before r_roundSums r_carried c_colours c_many c_group c_there c_groupMany c_means c_sums n_colours n_many n_group n_there n_groupMany n_means n_sums f_thrown f_width f_height f_different f_groups f_rowSize f_ready f_size f_rounds f_colours f_many f_group f_there f_groupMany f_means f_sums) [(c_colours, .int), (c_many, .int), (c_group, .int), (c_there, .boolean), (c_groupMany, .long), (c_means, .int), (c_sums, .long)] sz)) (va_Qv (fun (u : (Nat → Int32) × (Nat → Int32) × (Nat → Int64) × (Nat → Int32) × (Nat → Int64)) => post u.1 u.2.1 u.2.2.1 u.2.2.2.1 u.2.2.2.2) (gx_B (dC, dI) vwCl (va_A (wdMd_joinOne q_this q_colours q_many q_group q_there q_groupMany q_means q_sums r_samples r_isGiven r_gives r_row r_channelOf r_spreads r_boxMany r_palette r_has r_takers r_takenSums r_order r_before r_roundSums r_carried c_colours c_many c_group c_there c_groupMany c_means c_sums n_colours n_many n_group n_there n_groupMany n_means n_sums f_thrown f_width f_height f_different f_groups f_rowSize f_ready f_size f_rounds f_colours f_many f_group f_there f_groupMany f_means f_sums) sz) (fun (u : (Nat → Int32) × (Nat → Int32) × (Nat → Int64) × (Nat → Int32) × (Nat → Int64)) => (wdMd_joinOne q_this q_colours q_many q_group q_there q_groupMany q_means q_sums r_samples r_isGiven r_gives r_row r_channelOf r_spreads r_boxMany r_palette r_has r_takers r_takenSums r_order r_before r_roundSums r_carried c_colours c_many c_group c_there c_groupMany c_means c_sums n_colours n_many n_group n_there n_groupMany n_means n_sums f_thrown f_width f_height f_different f_groups f_rowSize f_ready f_size f_rounds f_colours f_many u.1 u.2.1 u.2.2.1 u.2.2.2.1 u.2.2.2.2))) (va_A (wdMd_joinOne q_this q_colours q_many q_group q_there q_groupMany q_means q_sums r_samples r_isGiven r_gives r_row r_channelOf r_spreads r_boxMany r_palette r_has r_takers r_takenSums r_order r_before r_roundSums r_carried c_colours c_many c_group c_there c_groupMany c_means c_sums n_colours n_many n_group n_there n_groupMany n_means n_sums f_thrown f_width f_height f_different f_groups f_rowSize f_ready f_size f_rounds f_colours f_many f_group f_there f_groupMany f_means f_sums) sz)) 0 0 (va_A (wdMd_joinOne q_this q_colours q_many q_group q_there q_groupMany q_means q_sums r_samples r_isGiven r_gives r_row r_channelOf r_spreads r_boxMany r_palette r_has r_takers r_takenSums r_order r_before r_roundSums r_carried c_colours c_many c_group c_there c_groupMany c_means c_sums n_colours n_many n_group n_there n_groupMany n_means n_sums f_thrown f_width f_height f_different f_groups f_rowSize f_ready f_size f_rounds f_colours f_many f_group f_there f_groupMany f_means f_sums) sz) := by
  refine Met.ofW (cc := bMd_joinOne) (maxL := 9) (ret := none) (by decide) rfl ?_
  intro p e s m args below meth c s₁ B hml hv
  obtain ⟨rfl, hsz, hP, hK, hD0, hZ⟩ := hv
  have hx := B.exec
  have hb := B.bytes
  have hr := B.returns
  have hts := atoms_spec (ws := (.code yMd_joinOne bMd_joinOne 9 none :: BIG)) B.pre
  have hB : ∀ w ∈ BIG, w.before _ s = true := fun w h => hts w (List.mem_cons_of_mem _ h)
  have hown : s.vm.findClass RMd = some m.cls := findClass_of_methodNamed B.named
  have hlocks := B.notSynchronized
  subst hsz
  have hD := hD0.self (sz := s.heap.size)
  generalize hAe : va_A (wdMd_joinOne q_this q_colours q_many q_group q_there q_groupMany q_means q_sums r_samples r_isGiven r_gives r_row r_channelOf r_spreads r_boxMany r_palette r_has r_takers r_takenSums r_order r_before r_roundSums r_carried c_colours c_many c_group c_there c_groupMany c_means c_sums n_colours n_many n_group n_there n_groupMany n_means n_sums f_thrown f_width f_height f_different f_groups f_rowSize f_ready f_size f_rounds f_colours f_many f_group f_there f_groupMany f_means f_sums) s.heap.size = A at hD hZ ⊢
  have hA : ∀ q : Nat, s.heap.size ≤ q → A q := fun q h => by rw [← hAe]; exact Or.inr h
  have hS : va_S A s.heap s.heap [] := va_S.rf
  have hl := lv_entry ([.ref q_this]) (n := 9) (Nat.le_of_ble_eq_true rfl)
  rw [lg_entry_eq]
  generalize (lg_sl ([.ref q_this]) ++ List.replicate (9 - (lg_sl ([.ref q_this])).length) Slot.unset).toArray = ls at hl ⊢
  have hl : lv_has ls 9 [(0, .ref q_this)] := hl
  have hL26 := (hB _ bw624)
  have hL41 := (hB _ bw631)
  have hL44 := (hB _ bw632)
  have hL48 := (hB _ bw633)
  have hL108 := (hB _ bw621)
  have hL130 := (hB _ bw625)
  refine gx_abs (fun G eG => ?_)
  obtain ⟨K9, eK9⟩ : ∃ K : Int32 → Int32 → Int64 → Int32 → (Nat → Int32) → (Nat → Int32) → (Nat → Int64) → (Nat → Int32) → (Nat → Int64) → Prop, K = fun v1 v2 v3 v5 f_group f_there f_groupMany f_means f_sums => ∀ (H : Heap) (locs : List Loc) (ls : Array Slot), va_P (dC, dI) vwCl (wdMd_joinOne q_this q_colours q_many q_group q_there q_groupMany q_means q_sums r_samples r_isGiven r_gives r_row r_channelOf r_spreads r_boxMany r_palette r_has r_takers r_takenSums r_order r_before r_roundSums r_carried c_colours c_many c_group c_there c_groupMany c_means c_sums n_colours n_many n_group n_there n_groupMany n_means n_sums f_thrown f_width f_height f_different f_groups f_rowSize f_ready f_size f_rounds f_colours f_many f_group f_there f_groupMany f_means f_sums) H → va_D A (wdMd_joinOne q_this q_colours q_many q_group q_there q_groupMany q_means q_sums r_samples r_isGiven r_gives r_row r_channelOf r_spreads r_boxMany r_palette r_has r_takers r_takenSums r_order r_before r_roundSums r_carried c_colours c_many c_group c_there c_groupMany c_means c_sums n_colours n_many n_group n_there n_groupMany n_means n_sums f_thrown f_width f_height f_different f_groups f_rowSize f_ready f_size f_rounds f_colours f_many f_group f_there f_groupMany f_means f_sums) → va_S A s.heap H locs → lv_has ls 9 [(0, .ref q_this), (1, .int v1), (2, .int v2), (3, .long v3), (5, .int v5)] → G H locs 0 0 (F0 m 9 ls []) := ⟨_, rfl⟩
  obtain ⟨K24, eK24⟩ : ∃ K : Int32 → Int32 → Int64 → Int32 → Int32 → (Nat → Int32) → (Nat → Int32) → (Nat → Int64) → (Nat → Int32) → (Nat → Int64) → Prop, K = fun v1 v2 v3 v5 v6 f_group f_there f_groupMany f_means f_sums => ∀ (H : Heap) (locs : List Loc) (ls : Array Slot), va_P (dC, dI) vwCl (wdMd_joinOne q_this q_colours q_many q_group q_there q_groupMany q_means q_sums r_samples r_isGiven r_gives r_row r_channelOf r_spreads r_boxMany r_palette r_has r_takers r_takenSums r_order r_before r_roundSums r_carried c_colours c_many c_group c_there c_groupMany c_means c_sums n_colours n_many n_group n_there n_groupMany n_means n_sums f_thrown f_width f_height f_different f_groups f_rowSize f_ready f_size f_rounds f_colours f_many f_group f_there f_groupMany f_means f_sums) H → va_D A (wdMd_joinOne q_this q_colours q_many q_group q_there q_groupMany q_means q_sums r_samples r_isGiven r_gives r_row r_channelOf r_spreads r_boxMany r_palette r_has r_takers r_takenSums r_order r_before r_roundSums r_carried c_colours c_many c_group c_there c_groupMany c_means c_sums n_colours n_many n_group n_there n_groupMany n_means n_sums f_thrown f_width f_height f_different f_groups f_rowSize f_ready f_size f_rounds f_colours f_many f_group f_there f_groupMany f_means f_sums) → va_S A s.heap H locs → lv_has ls 9 [(0, .ref q_this), (1, .int v1), (2, .int v2), (3, .long v3), (5, .int v5), (6, .int v6)] → G H locs 0 0 (F0 m 24 ls []) := ⟨_, rfl⟩
  obtain ⟨K142, eK142⟩ : ∃ K : Int32 → Int32 → Int32 → (Nat → Int32) → (Nat → Int32) → (Nat → Int64) → (Nat → Int32) → (Nat → Int64) → Prop, K = fun v1 v2 v5 f_group f_there f_groupMany f_means f_sums => ∀ (H : Heap) (locs : List Loc) (ls : Array Slot), va_P (dC, dI) vwCl (wdMd_joinOne q_this q_colours q_many q_group q_there q_groupMany q_means q_sums r_samples r_isGiven r_gives r_row r_channelOf r_spreads r_boxMany r_palette r_has r_takers r_takenSums r_order r_before r_roundSums r_carried c_colours c_many c_group c_there c_groupMany c_means c_sums n_colours n_many n_group n_there n_groupMany n_means n_sums f_thrown f_width f_height f_different f_groups f_rowSize f_ready f_size f_rounds f_colours f_many f_group f_there f_groupMany f_means f_sums) H → va_D A (wdMd_joinOne q_this q_colours q_many q_group q_there q_groupMany q_means q_sums r_samples r_isGiven r_gives r_row r_channelOf r_spreads r_boxMany r_palette r_has r_takers r_takenSums r_order r_before r_roundSums r_carried c_colours c_many c_group c_there c_groupMany c_means c_sums n_colours n_many n_group n_there n_groupMany n_means n_sums f_thrown f_width f_height f_different f_groups f_rowSize f_ready f_size f_rounds f_colours f_many f_group f_there f_groupMany f_means f_sums) → va_S A s.heap H locs → lv_has ls 9 [(0, .ref q_this), (1, .int v1), (2, .int v2), (5, .int v5)] → G H locs 0 0 (F0 m 142 ls []) := ⟨_, rfl⟩
  have j179 : ∀ (v1 : Int32) (v2 : Int32) (v5 : Int32) (s0 : Int32) (s1 : Int32) (f_group : Nat → Int32) (f_there : Nat → Int32) (f_groupMany : Nat → Int64) (f_means : Nat → Int32) (f_sums : Nat → Int64), vcMd_joinOne_179 n_colours n_many n_group n_there n_groupMany n_means n_sums f_thrown f_width f_height f_different f_groups f_rowSize f_ready f_size f_rounds f_colours f_many K9 K24 K142 post v1 v2 v5 s0 s1 f_group f_there f_groupMany f_means f_sums → ∀ (H : Heap) (locs : List Loc) (ls : Array Slot), va_P (dC, dI) vwCl (wdMd_joinOne q_this q_colours q_many q_group q_there q_groupMany q_means q_sums r_samples r_isGiven r_gives r_row r_channelOf r_spreads r_boxMany r_palette r_has r_takers r_takenSums r_order r_before r_roundSums r_carried c_colours c_many c_group c_there c_groupMany c_means c_sums n_colours n_many n_group n_there n_groupMany n_means n_sums f_thrown f_width f_height f_different f_groups f_rowSize f_ready f_size f_rounds f_colours f_many f_group f_there f_groupMany f_means f_sums) H → va_D A (wdMd_joinOne q_this q_colours q_many q_group q_there q_groupMany q_means q_sums r_samples r_isGiven r_gives r_row r_channelOf r_spreads r_boxMany r_palette r_has r_takers r_takenSums r_order r_before r_roundSums r_carried c_colours c_many c_group c_there c_groupMany c_means c_sums n_colours n_many n_group n_there n_groupMany n_means n_sums f_thrown f_width f_height f_different f_groups f_rowSize f_ready f_size f_rounds f_colours f_many f_group f_there f_groupMany f_means f_sums) → va_S A s.heap H locs → lv_has ls 9 [(0, .ref q_this), (1, .int v1), (2, .int v2), (5, .int v5)] → G H locs 0 0 (F0 m 179 ls [.int s0, .int s1, .ref q_group]) := by
    intro v1 v2 v5 s0 s1 f_group f_there f_groupMany f_means f_sums hv H locs ls hP hD hS hl
    rw [eG]
    unfold vcMd_joinOne_179 at hv
    obtain ⟨h_1, hv⟩ := hv
    refine va_iast hx hb hK hP hD hS 3 2 rfl rfl h_1 dMd_joinOne_179 (fun H locs hP hD hS => ?_)
    have hP : va_P (dC, dI) vwCl (wdMd_joinOne q_this q_colours q_many q_group q_there q_groupMany q_means q_sums r_samples r_isGiven r_gives r_row r_channelOf r_spreads r_boxMany r_palette r_has r_takers r_takenSums r_order r_before r_roundSums r_carried c_colours c_many c_group c_there c_groupMany c_means c_sums n_colours n_many n_group n_there n_groupMany n_means n_sums f_thrown f_width f_height f_different f_groups f_rowSize f_ready f_size f_rounds f_colours f_many (upd f_group s1.toNatClampNeg s0) f_there f_groupMany f_means f_sums) H := hP
    have hD : va_D A (wdMd_joinOne q_this q_colours q_many q_group q_there q_groupMany q_means q_sums r_samples r_isGiven r_gives r_row r_channelOf r_spreads r_boxMany r_palette r_has r_takers r_takenSums r_order r_before r_roundSums r_carried c_colours c_many c_group c_there c_groupMany c_means c_sums n_colours n_many n_group n_there n_groupMany n_means n_sums f_thrown f_width f_height f_different f_groups f_rowSize f_ready f_size f_rounds f_colours f_many (upd f_group s1.toNatClampNeg s0) f_there f_groupMany f_means f_sums) := hD
    refine lv_iinc (v := v5 + 1) (lv' := [(5, .int (v5 + 1)), (0, .ref q_this), (1, .int v1), (2, .int v2)]) hx hb dMd_joinOne_180 hl (k := 3) rfl rfl (by decide) rfl (fun ls hl => ?_)
    refine lv_goto (tgt := 142) hx hb dMd_joinOne_183 (by decide) ?_
    rw [eK142, eG] at hv
    exact hv _ _ _ hP hD hS (lv_sub hl [1, 2, 3, 0] rfl)
  rw [eG] at j179
  have j127 : ∀ (v1 : Int32) (v2 : Int32) (v3 : Int64) (v5 : Int32) (v6 : Int32) (f_group : Nat → Int32) (f_there : Nat → Int32) (f_groupMany : Nat → Int64) (f_means : Nat → Int32) (f_sums : Nat → Int64), vcMd_joinOne_127 n_colours n_many n_group n_there n_groupMany n_means n_sums f_thrown f_width f_height f_different f_groups f_rowSize f_ready f_size f_rounds f_colours f_many K9 K24 K142 post v1 v2 v3 v5 v6 f_group f_there f_groupMany f_means f_sums → ∀ (H : Heap) (locs : List Loc) (ls : Array Slot), va_P (dC, dI) vwCl (wdMd_joinOne q_this q_colours q_many q_group q_there q_groupMany q_means q_sums r_samples r_isGiven r_gives r_row r_channelOf r_spreads r_boxMany r_palette r_has r_takers r_takenSums r_order r_before r_roundSums r_carried c_colours c_many c_group c_there c_groupMany c_means c_sums n_colours n_many n_group n_there n_groupMany n_means n_sums f_thrown f_width f_height f_different f_groups f_rowSize f_ready f_size f_rounds f_colours f_many f_group f_there f_groupMany f_means f_sums) H → va_D A (wdMd_joinOne q_this q_colours q_many q_group q_there q_groupMany q_means q_sums r_samples r_isGiven r_gives r_row r_channelOf r_spreads r_boxMany r_palette r_has r_takers r_takenSums r_order r_before r_roundSums r_carried c_colours c_many c_group c_there c_groupMany c_means c_sums n_colours n_many n_group n_there n_groupMany n_means n_sums f_thrown f_width f_height f_different f_groups f_rowSize f_ready f_size f_rounds f_colours f_many f_group f_there f_groupMany f_means f_sums) → va_S A s.heap H locs → lv_has ls 9 [(0, .ref q_this), (1, .int v1), (2, .int v2), (3, .long v3), (5, .int v5), (6, .int v6)] → G H locs 0 0 (F0 m 127 ls []) := by
    intro v1 v2 v3 v5 v6 f_group f_there f_groupMany f_means f_sums hv H locs ls hP hD hS hl
    rw [eG]
    unfold vcMd_joinOne_127 at hv
    refine lv_iinc (v := v6 + 1) (lv' := [(6, .int (v6 + 1)), (0, .ref q_this), (1, .int v1), (2, .int v2), (3, .long v3), (5, .int v5)]) hx hb dMd_joinOne_127 hl (k := 5) rfl rfl (by decide) rfl (fun ls hl => ?_)
    refine lv_goto (tgt := 24) hx hb dMd_joinOne_130 (by decide) ?_
    rw [eK24, eG] at hv
    exact hv _ _ _ hP hD hS (lv_sub hl [1, 2, 3, 4, 5, 0] rfl)
  rw [eG] at j127
  have j118 : ∀ (v5 : Int32) (v6 : Int32) (v7 : Int64) (f_group : Nat → Int32) (f_there : Nat → Int32) (f_groupMany : Nat → Int64) (f_means : Nat → Int32) (f_sums : Nat → Int64), vcMd_joinOne_118 n_colours n_many n_group n_there n_groupMany n_means n_sums f_thrown f_width f_height f_different f_groups f_rowSize f_ready f_size f_rounds f_colours f_many K9 K24 K142 post v5 v6 v7 f_group f_there f_groupMany f_means f_sums → ∀ (H : Heap) (locs : List Loc) (ls : Array Slot), va_P (dC, dI) vwCl (wdMd_joinOne q_this q_colours q_many q_group q_there q_groupMany q_means q_sums r_samples r_isGiven r_gives r_row r_channelOf r_spreads r_boxMany r_palette r_has r_takers r_takenSums r_order r_before r_roundSums r_carried c_colours c_many c_group c_there c_groupMany c_means c_sums n_colours n_many n_group n_there n_groupMany n_means n_sums f_thrown f_width f_height f_different f_groups f_rowSize f_ready f_size f_rounds f_colours f_many f_group f_there f_groupMany f_means f_sums) H → va_D A (wdMd_joinOne q_this q_colours q_many q_group q_there q_groupMany q_means q_sums r_samples r_isGiven r_gives r_row r_channelOf r_spreads r_boxMany r_palette r_has r_takers r_takenSums r_order r_before r_roundSums r_carried c_colours c_many c_group c_there c_groupMany c_means c_sums n_colours n_many n_group n_there n_groupMany n_means n_sums f_thrown f_width f_height f_different f_groups f_rowSize f_ready f_size f_rounds f_colours f_many f_group f_there f_groupMany f_means f_sums) → va_S A s.heap H locs → lv_has ls 9 [(0, .ref q_this), (5, .int v5), (6, .int v6), (7, .long v7)] → G H locs 0 0 (F0 m 118 ls []) := by
    intro v5 v6 v7 f_group f_there f_groupMany f_means f_sums hv H locs ls hP hD hS hl
    rw [eG]
    unfold vcMd_joinOne_118 at hv
    refine lv_iload hx hb dMd_joinOne_118 (lv_at hl 1 rfl) ?_
    refine lv_istore_n (lv' := [(1, .int v5), (0, .ref q_this), (5, .int v5), (6, .int v6), (7, .long v7)]) hx hb dMd_joinOne_120 rfl hl (by decide) rfl (fun ls hl => ?_)
    refine lv_iload hx hb dMd_joinOne_121 (lv_at hl 3 rfl) ?_
    refine lv_istore_n (lv' := [(2, .int v6), (1, .int v5), (0, .ref q_this), (5, .int v5), (6, .int v6), (7, .long v7)]) hx hb dMd_joinOne_123 rfl hl (by decide) rfl (fun ls hl => ?_)
    refine lv_lload hx hb dMd_joinOne_124 (lv_at hl 5 rfl) ?_
    refine lv_lstore_n (lv' := [(3, .long v7), (2, .int v6), (1, .int v5), (0, .ref q_this), (5, .int v5), (6, .int v6), (7, .long v7)]) hx hb dMd_joinOne_126 rfl hl (by decide) rfl (fun ls hl => ?_)
    exact j127 v5 v6 v7 v5 v6 f_group f_there f_groupMany f_means f_sums hv _ _ _ hP hD hS (lv_sub hl [3, 2, 1, 0, 4, 5] rfl)
  rw [eG] at j118
  unfold wpMd_joinOne at hw
  have hv := hw K9 K24 K142
  have hv := hv (by
    intro v1 v2 v3 v5 f_group f_there f_groupMany f_means f_sums hv
    rw [eK9]
    intro H locs ls hP hD hS hl
    rw [eG]
    unfold vcMd_joinOne_9 at hv
    refine lv_iload hx hb dMd_joinOne_9 (lv_at hl 4 rfl) ?_
    refine lv_aload_n hx hb dMd_joinOne_11 rfl (lv_at hl 0 rfl) ?_
    refine va_get (D := (dC, dI)) (ci := 8) (v := .int f_groups) (C := RMd) (T := TMd) (N := 31) hx hb hB hiMd hown hK hP 0 rfl rfl 10 (by decide) hL130 (fun _ h9 => h9) rfl dMd_joinOne_12 ?_
    refine lv_icmp_ge (tgt := 139) hx hb dMd_joinOne_15 (by decide) (fun c_3 => ?_) (fun c_3 => ?_)
    · have hv := hv.1 c_3
      refine lv_iconst (v := 0) hx hb dMd_joinOne_139 (by decide) ?_
      refine lv_istore (lv' := [(5, .int 0), (0, .ref q_this), (1, .int v1), (2, .int v2), (3, .long v3)]) hx hb dMd_joinOne_140 hl (by decide) rfl (fun ls hl => ?_)
      rw [eK142, eG] at hv
      exact hv _ _ _ hP hD hS (lv_sub hl [1, 2, 3, 0] rfl)
    · have hv := hv.2 c_3
      refine lv_iload hx hb dMd_joinOne_18 (lv_at hl 4 rfl) ?_
      refine lv_iconst (v := 1) hx hb dMd_joinOne_20 (by decide) ?_
      refine lv_iadd hx hb dMd_joinOne_21 ?_
      refine lv_topi (fun v6_4 ev6_4 => ?_)
      have hv := hv v6_4 ev6_4
      refine lv_istore (lv' := [(6, .int v6_4), (0, .ref q_this), (1, .int v1), (2, .int v2), (3, .long v3), (5, .int v5)]) hx hb dMd_joinOne_22 hl (by decide) rfl (fun ls hl => ?_)
      rw [eK24, eG] at hv
      exact hv _ _ _ hP hD hS (lv_sub hl [1, 2, 3, 4, 5, 0] rfl))
  have hv := hv (by
    intro v1 v2 v3 v5 v6 f_group f_there f_groupMany f_means f_sums hv
    rw [eK24]
    intro H locs ls hP hD hS hl
    rw [eG]
    unfold vcMd_joinOne_24 at hv
    refine lv_iload hx hb dMd_joinOne_24 (lv_at hl 5 rfl) ?_
    refine lv_aload_n hx hb dMd_joinOne_26 rfl (lv_at hl 0 rfl) ?_
    refine va_get (D := (dC, dI)) (ci := 8) (v := .int f_groups) (C := RMd) (T := TMd) (N := 31) hx hb hB hiMd hown hK hP 0 rfl rfl 10 (by decide) hL130 (fun _ h9 => h9) rfl dMd_joinOne_27 ?_
    refine lv_icmp_ge (tgt := 133) hx hb dMd_joinOne_30 (by decide) (fun c_5 => ?_) (fun c_5 => ?_)
    · have hv := hv.1 c_5
      refine lv_iinc (v := v5 + 1) (lv' := [(5, .int (v5 + 1)), (0, .ref q_this), (1, .int v1), (2, .int v2), (3, .long v3), (6, .int v6)]) hx hb dMd_joinOne_133 hl (k := 4) rfl rfl (by decide) rfl (fun ls hl => ?_)
      refine lv_goto (tgt := 9) hx hb dMd_joinOne_136 (by decide) ?_
      rw [eK9, eG] at hv
      exact hv _ _ _ hP hD hS (lv_sub hl [1, 2, 3, 4, 0] rfl)
    · have hv := hv.2 c_5
      refine lv_aload_n hx hb dMd_joinOne_33 rfl (lv_at hl 0 rfl) ?_
      refine va_get (D := (dC, dI)) (ci := 8) (v := .ref q_there) (C := RMd) (T := TMd) (N := 31) hx hb hB hiMd hown hK hP 0 rfl rfl 16 (by decide) hL41 (fun _ h9 => h9) rfl dMd_joinOne_34 ?_
      refine lv_iload hx hb dMd_joinOne_37 (lv_at hl 4 rfl) ?_
      obtain ⟨h_6, hv⟩ := hv
      refine va_zald hx hb hK hP 4 3 rfl rfl h_6 dMd_joinOne_39 ?_
      refine lv_if_eq (tgt := 127) hx hb dMd_joinOne_40 (by decide) (fun c_7 => ?_) (fun c_7 => ?_)
      · have hv := hv.1 c_7
        exact j127 v1 v2 v3 v5 v6 f_group f_there f_groupMany f_means f_sums hv _ _ _ hP hD hS (lv_sub hl [0, 1, 2, 3, 4, 5] rfl)
      · have hv := hv.2 c_7
        refine lv_aload_n hx hb dMd_joinOne_43 rfl (lv_at hl 0 rfl) ?_
        refine va_get (D := (dC, dI)) (ci := 8) (v := .ref q_there) (C := RMd) (T := TMd) (N := 31) hx hb hB hiMd hown hK hP 0 rfl rfl 16 (by decide) hL41 (fun _ h9 => h9) rfl dMd_joinOne_44 ?_
        refine lv_iload hx hb dMd_joinOne_47 (lv_at hl 5 rfl) ?_
        obtain ⟨h_8, hv⟩ := hv
        refine va_zald hx hb hK hP 4 3 rfl rfl h_8 dMd_joinOne_49 ?_
        refine lv_if_eq (tgt := 127) hx hb dMd_joinOne_50 (by decide) (fun c_9 => ?_) (fun c_9 => ?_)
        · have hv := hv.1 c_9
          exact j127 v1 v2 v3 v5 v6 f_group f_there f_groupMany f_means f_sums hv _ _ _ hP hD hS (lv_sub hl [0, 1, 2, 3, 4, 5] rfl)
        · have hv := hv.2 c_9
          refine lv_aload_n hx hb dMd_joinOne_53 rfl (lv_at hl 0 rfl) ?_
          refine va_get (D := (dC, dI)) (ci := 8) (v := .ref q_groupMany) (C := RMd) (T := TMd) (N := 31) hx hb hB hiMd hown hK hP 0 rfl rfl 17 (by decide) hL44 (fun _ h9 => h9) rfl dMd_joinOne_54 ?_
          refine lv_iload hx hb dMd_joinOne_57 (lv_at hl 4 rfl) ?_
          obtain ⟨h_10, hv⟩ := hv
          refine va_lald hx hb hK hP 5 4 rfl rfl h_10 dMd_joinOne_59 ?_
          refine lv_aload_n hx hb dMd_joinOne_60 rfl (lv_at hl 0 rfl) ?_
          refine va_get (D := (dC, dI)) (ci := 8) (v := .ref q_groupMany) (C := RMd) (T := TMd) (N := 31) hx hb hB hiMd hown hK hP 0 rfl rfl 17 (by decide) hL44 (fun _ h9 => h9) rfl dMd_joinOne_61 ?_
          refine lv_iload hx hb dMd_joinOne_64 (lv_at hl 5 rfl) ?_
          obtain ⟨h_11, hv⟩ := hv
          refine va_lald hx hb hK hP 5 4 rfl rfl h_11 dMd_joinOne_66 ?_
          refine lv_lmul hx hb dMd_joinOne_67 ?_
          refine lv_aload_n hx hb dMd_joinOne_68 rfl (lv_at hl 0 rfl) ?_
          refine va_get (D := (dC, dI)) (ci := 8) (v := .ref q_means) (C := RMd) (T := TMd) (N := 31) hx hb hB hiMd hown hK hP 0 rfl rfl 18 (by decide) hL48 (fun _ h9 => h9) rfl dMd_joinOne_69 ?_
          refine lv_iconst (v := 4) hx hb dMd_joinOne_72 (by decide) ?_
          refine lv_iload hx hb dMd_joinOne_73 (lv_at hl 4 rfl) ?_
          refine lv_imul hx hb dMd_joinOne_75 ?_
          refine lv_aload_n hx hb dMd_joinOne_76 rfl (lv_at hl 0 rfl) ?_
          refine va_get (D := (dC, dI)) (ci := 8) (v := .ref q_means) (C := RMd) (T := TMd) (N := 31) hx hb hB hiMd hown hK hP 0 rfl rfl 18 (by decide) hL48 (fun _ h9 => h9) rfl dMd_joinOne_77 ?_
          refine lv_iconst (v := 4) hx hb dMd_joinOne_80 (by decide) ?_
          refine lv_iload hx hb dMd_joinOne_81 (lv_at hl 5 rfl) ?_
          refine lv_imul hx hb dMd_joinOne_83 ?_
          refine gx_rl (va_runS (As := [.ref q_means, .int (4 * v5), .ref q_means, .int (4 * v6)]) (rest := [.long ((f_groupMany v5.toNatClampNeg) * (f_groupMany v6.toNatClampNeg))]) ⟨hx, hb, hml, hown, hB⟩ (metMd_far__02 l dC dI q_means c_means n_means H.size f_means (4 * v5) (4 * v6) hv) (va_cwS 4 hB (gx_gS bw753 bw754 bw53 bw755) rfl rfl rfl (by decide +kernel) ⟨(Nat.le_of_ble_eq_true rfl), (Nat.le_of_ble_eq_true rfl)⟩) (gx_rpreS (hP.sub (ws' := (wdMd_far__02 q_means c_means n_means f_means)) [6] rfl) (hK.sub (tys' := [(c_means, .int)]) [5] rfl) hZ hS hA) rfl rfl hl.1 rfl (lv_room (Nat.le_of_ble_eq_true rfl)) dMd_joinOne_84 ⟨(Nat.le_of_ble_eq_true rfl), (Nat.le_of_ble_eq_true rfl)⟩) hP hS hA (fun r_12 H locs hv hP hS => ?_)
          refine lv_lmul hx hb dMd_joinOne_87 ?_
          refine lv_aload_n hx hb dMd_joinOne_88 rfl (lv_at hl 0 rfl) ?_
          refine va_get (D := (dC, dI)) (ci := 8) (v := .ref q_groupMany) (C := RMd) (T := TMd) (N := 31) hx hb hB hiMd hown hK hP 0 rfl rfl 17 (by decide) hL44 (fun _ h9 => h9) rfl dMd_joinOne_89 ?_
          refine lv_iload hx hb dMd_joinOne_92 (lv_at hl 4 rfl) ?_
          obtain ⟨h_14, hv⟩ := hv
          refine va_lald hx hb hK hP 5 4 rfl rfl h_14 dMd_joinOne_94 ?_
          refine lv_aload_n hx hb dMd_joinOne_95 rfl (lv_at hl 0 rfl) ?_
          refine va_get (D := (dC, dI)) (ci := 8) (v := .ref q_groupMany) (C := RMd) (T := TMd) (N := 31) hx hb hB hiMd hown hK hP 0 rfl rfl 17 (by decide) hL44 (fun _ h9 => h9) rfl dMd_joinOne_96 ?_
          refine lv_iload hx hb dMd_joinOne_99 (lv_at hl 5 rfl) ?_
          obtain ⟨h_15, hv⟩ := hv
          refine va_lald hx hb hK hP 5 4 rfl rfl h_15 dMd_joinOne_101 ?_
          refine lv_ladd hx hb dMd_joinOne_102 ?_
          obtain ⟨h_16, hv⟩ := hv
          refine lv_ldiv hx hb dMd_joinOne_103 h_16 ?_
          refine lv_topl (fun v7_17 ev7_17 => ?_)
          have hv := hv v7_17 ev7_17
          refine lv_lstore (lv' := [(7, .long v7_17), (0, .ref q_this), (1, .int v1), (2, .int v2), (3, .long v3), (5, .int v5), (6, .int v6)]) hx hb dMd_joinOne_104 hl (by decide) rfl (fun ls hl => ?_)
          refine lv_iload_n hx hb dMd_joinOne_106 rfl (lv_at hl 2 rfl) ?_
          refine lv_iconst (v := (-1)) hx hb dMd_joinOne_107 (by decide) ?_
          refine lv_icmp_eq (tgt := 118) hx hb dMd_joinOne_108 (by decide) (fun c_18 => ?_) (fun c_18 => ?_)
          · have hv := hv.1 c_18
            exact j118 v5 v6 v7_17 f_group f_there f_groupMany f_means f_sums hv _ _ _ hP hD hS (lv_sub hl [1, 5, 6, 0] rfl)
          · have hv := hv.2 c_18
            refine lv_lload hx hb dMd_joinOne_111 (lv_at hl 0 rfl) ?_
            refine lv_lload_n hx hb dMd_joinOne_113 rfl (lv_at hl 4 rfl) ?_
            refine W.lcmp hx hb dMd_joinOne_114 ?_
            refine lv_if_ge (tgt := 127) hx hb dMd_joinOne_115 (by decide) (fun c_19 => ?_) (fun c_19 => ?_)
            · have hv := hv.1 c_19
              exact j127 v1 v2 v3 v5 v6 f_group f_there f_groupMany f_means f_sums hv _ _ _ hP hD hS (lv_sub hl [1, 2, 3, 4, 5, 6] rfl)
            · have hv := hv.2 c_19
              exact j118 v5 v6 v7_17 f_group f_there f_groupMany f_means f_sums hv _ _ _ hP hD hS (lv_sub hl [1, 5, 6, 0] rfl))
  have hv := hv (by
    intro v1 v2 v5 f_group f_there f_groupMany f_means f_sums hv
    rw [eK142]
    intro H locs ls hP hD hS hl
    rw [eG]
    unfold vcMd_joinOne_142 at hv
    refine lv_iload hx hb dMd_joinOne_142 (lv_at hl 3 rfl) ?_
    refine lv_aload_n hx hb dMd_joinOne_144 rfl (lv_at hl 0 rfl) ?_
    refine va_get (D := (dC, dI)) (ci := 8) (v := .int f_different) (C := RMd) (T := TMd) (N := 31) hx hb hB hiMd hown hK hP 0 rfl rfl 6 (by decide) hL108 (fun _ h9 => h9) rfl dMd_joinOne_145 ?_
    refine lv_icmp_ge (tgt := 186) hx hb dMd_joinOne_148 (by decide) (fun c_20 => ?_) (fun c_20 => ?_)
    · have hv := hv.1 c_20
      refine lv_aload_n hx hb dMd_joinOne_186 rfl (lv_at hl 0 rfl) ?_
      refine va_get (D := (dC, dI)) (ci := 8) (v := .ref q_there) (C := RMd) (T := TMd) (N := 31) hx hb hB hiMd hown hK hP 0 rfl rfl 16 (by decide) hL41 (fun _ h9 => h9) rfl dMd_joinOne_187 ?_
      refine lv_iload_n hx hb dMd_joinOne_190 rfl (lv_at hl 2 rfl) ?_
      refine lv_iconst (v := 0) hx hb dMd_joinOne_191 (by decide) ?_
      obtain ⟨h_21, hv⟩ := hv
      refine va_zast hx hb hK hP hD hS 4 3 rfl rfl h_21 dMd_joinOne_192 (fun H locs hP hD hS => ?_)
      have hP : va_P (dC, dI) vwCl (wdMd_joinOne q_this q_colours q_many q_group q_there q_groupMany q_means q_sums r_samples r_isGiven r_gives r_row r_channelOf r_spreads r_boxMany r_palette r_has r_takers r_takenSums r_order r_before r_roundSums r_carried c_colours c_many c_group c_there c_groupMany c_means c_sums n_colours n_many n_group n_there n_groupMany n_means n_sums f_thrown f_width f_height f_different f_groups f_rowSize f_ready f_size f_rounds f_colours f_many f_group (upd f_there v2.toNatClampNeg (vp_nar .boolean 0)) f_groupMany f_means f_sums) H := hP
      have hD : va_D A (wdMd_joinOne q_this q_colours q_many q_group q_there q_groupMany q_means q_sums r_samples r_isGiven r_gives r_row r_channelOf r_spreads r_boxMany r_palette r_has r_takers r_takenSums r_order r_before r_roundSums r_carried c_colours c_many c_group c_there c_groupMany c_means c_sums n_colours n_many n_group n_there n_groupMany n_means n_sums f_thrown f_width f_height f_different f_groups f_rowSize f_ready f_size f_rounds f_colours f_many f_group (upd f_there v2.toNatClampNeg (vp_nar .boolean 0)) f_groupMany f_means f_sums) := hD
      refine lv_aload_n hx hb dMd_joinOne_193 rfl (lv_at hl 0 rfl) ?_
      refine lv_iload_n hx hb dMd_joinOne_194 rfl (lv_at hl 1 rfl) ?_
      have hFc := va_free (wc := (wdMd_findMean q_this q_colours q_many q_group q_groupMany q_means q_sums r_samples r_isGiven r_gives r_row r_channelOf r_spreads r_boxMany q_there r_palette r_has r_takers r_takenSums r_order r_before r_roundSums r_carried c_colours c_many c_group c_groupMany c_means c_sums n_colours n_many n_group n_groupMany n_means n_sums f_thrown f_width f_height f_different f_groups f_rowSize f_ready f_size f_rounds f_colours f_many f_group f_groupMany f_means f_sums)) hD hS hA [0, 1, 2, 3, 5, 6, 7] rfl
      refine gx_v (wr := [(q_there, .inl (c_there, n_there, .inl (upd f_there v2.toNatClampNeg (vp_nar .boolean 0))))]) (va_runV (As := [.int v1]) (rest := []) ⟨hx, hb, hml, hown, hB⟩ (metMd_findMean l dC dI q_this q_colours q_many q_group q_groupMany q_means q_sums r_samples r_isGiven r_gives r_row r_channelOf r_spreads r_boxMany q_there r_palette r_has r_takers r_takenSums r_order r_before r_roundSums r_carried c_colours c_many c_group c_groupMany c_means c_sums n_colours n_many n_group n_groupMany n_means n_sums H.size f_thrown f_width f_height f_different f_groups f_rowSize f_ready f_size f_rounds f_colours f_many f_group f_groupMany f_means f_sums v1 hv) (cwV 1 hB (gx_gV bw743 bw744 bw34 bw53 bw745) rfl rfl rfl (by decide +kernel) ⟨(Nat.le_of_ble_eq_true rfl), (Nat.le_of_ble_eq_true rfl)⟩) (gx_preV (ci := 8) (hP.sub (ws' := (wdMd_findMean q_this q_colours q_many q_group q_groupMany q_means q_sums r_samples r_isGiven r_gives r_row r_channelOf r_spreads r_boxMany q_there r_palette r_has r_takers r_takenSums r_order r_before r_roundSums r_carried c_colours c_many c_group c_groupMany c_means c_sums n_colours n_many n_group n_groupMany n_means n_sums f_thrown f_width f_height f_different f_groups f_rowSize f_ready f_size f_rounds f_colours f_many f_group f_groupMany f_means f_sums)) [0, 1, 2, 3, 5, 6, 7] rfl) (hK.sub (tys' := [(c_colours, .int), (c_many, .int), (c_group, .int), (c_groupMany, .long), (c_means, .int), (c_sums, .long)]) [0, 1, 2, 4, 5, 6] rfl) (hD.sub (ws' := (wdMd_findMean q_this q_colours q_many q_group q_groupMany q_means q_sums r_samples r_isGiven r_gives r_row r_channelOf r_spreads r_boxMany q_there r_palette r_has r_takers r_takenSums r_order r_before r_roundSums r_carried c_colours c_many c_group c_groupMany c_means c_sums n_colours n_many n_group n_groupMany n_means n_sums f_thrown f_width f_height f_different f_groups f_rowSize f_ready f_size f_rounds f_colours f_many f_group f_groupMany f_means f_sums)) [0, 1, 2, 3, 5, 6, 7] (by decide) rfl) hZ hS hFc rfl rfl) rfl rfl hl.1 rfl (lv_room (Nat.le_of_ble_eq_true rfl)) dMd_joinOne_195 ⟨(Nat.le_of_ble_eq_true rfl), (Nat.le_of_ble_eq_true rfl)⟩) hP hD hS hFc [0, 1, 2, 3, 5, 6, 7] [4] rfl rfl (by decide) (by decide) (fun u_26 H locs hv hP hD hS => ?_)
      obtain ⟨f_groupMany_23, f_means_24, f_sums_25⟩ := u_26
      have hP : va_P (dC, dI) vwCl (wdMd_joinOne q_this q_colours q_many q_group q_there q_groupMany q_means q_sums r_samples r_isGiven r_gives r_row r_channelOf r_spreads r_boxMany r_palette r_has r_takers r_takenSums r_order r_before r_roundSums r_carried c_colours c_many c_group c_there c_groupMany c_means c_sums n_colours n_many n_group n_there n_groupMany n_means n_sums f_thrown f_width f_height f_different f_groups f_rowSize f_ready f_size f_rounds f_colours f_many f_group (upd f_there v2.toNatClampNeg (vp_nar .boolean 0)) f_groupMany_23 f_means_24 f_sums_25) H := hP.sub [1, 2, 3, 4, 0, 5, 6, 7] rfl
      have hD : va_D A (wdMd_joinOne q_this q_colours q_many q_group q_there q_groupMany q_means q_sums r_samples r_isGiven r_gives r_row r_channelOf r_spreads r_boxMany r_palette r_has r_takers r_takenSums r_order r_before r_roundSums r_carried c_colours c_many c_group c_there c_groupMany c_means c_sums n_colours n_many n_group n_there n_groupMany n_means n_sums f_thrown f_width f_height f_different f_groups f_rowSize f_ready f_size f_rounds f_colours f_many f_group (upd f_there v2.toNatClampNeg (vp_nar .boolean 0)) f_groupMany_23 f_means_24 f_sums_25) := hD.sub [1, 2, 3, 4, 0, 5, 6, 7] (by decide) rfl
      exact W.vret hx hb hr (fun t ht hW => ⟨⟨(f_group, upd f_there v2.toNatClampNeg (vp_nar .boolean 0), f_groupMany_23, f_means_24, f_sums_25), rfl, hv, by rw [ht]; exact hP, hD⟩, hS.F ht⟩) hS.2.2 dMd_joinOne_198
    · have hv := hv.2 c_20
      refine lv_aload_n hx hb dMd_joinOne_151 rfl (lv_at hl 0 rfl) ?_
      refine va_get (D := (dC, dI)) (ci := 8) (v := .ref q_group) (C := RMd) (T := TMd) (N := 31) hx hb hB hiMd hown hK hP 0 rfl rfl 9 (by decide) hL26 (fun _ h9 => h9) rfl dMd_joinOne_152 ?_
      refine lv_iload hx hb dMd_joinOne_155 (lv_at hl 3 rfl) ?_
      refine lv_aload_n hx hb dMd_joinOne_157 rfl (lv_at hl 0 rfl) ?_
      refine va_get (D := (dC, dI)) (ci := 8) (v := .ref q_group) (C := RMd) (T := TMd) (N := 31) hx hb hB hiMd hown hK hP 0 rfl rfl 9 (by decide) hL26 (fun _ h9 => h9) rfl dMd_joinOne_158 ?_
      refine lv_iload hx hb dMd_joinOne_161 (lv_at hl 3 rfl) ?_
      obtain ⟨h_27, hv⟩ := hv
      refine va_iald hx hb hK hP 3 2 rfl rfl h_27 dMd_joinOne_163 ?_
      refine lv_iload_n hx hb dMd_joinOne_164 rfl (lv_at hl 2 rfl) ?_
      refine lv_icmp_ne (tgt := 172) hx hb dMd_joinOne_165 (by decide) (fun c_28 => ?_) (fun c_28 => ?_)
      · have hv := hv.1 c_28
        refine lv_aload_n hx hb dMd_joinOne_172 rfl (lv_at hl 0 rfl) ?_
        refine va_get (D := (dC, dI)) (ci := 8) (v := .ref q_group) (C := RMd) (T := TMd) (N := 31) hx hb hB hiMd hown hK hP 0 rfl rfl 9 (by decide) hL26 (fun _ h9 => h9) rfl dMd_joinOne_173 ?_
        refine lv_iload hx hb dMd_joinOne_176 (lv_at hl 3 rfl) ?_
        obtain ⟨h_29, hv⟩ := hv
        refine va_iald hx hb hK hP 3 2 rfl rfl h_29 dMd_joinOne_178 ?_
        exact j179 v1 v2 v5 (f_group v5.toNatClampNeg) v5 f_group f_there f_groupMany f_means f_sums hv _ _ _ hP hD hS (lv_sub hl [0, 1, 2, 3] rfl)
      · have hv := hv.2 c_28
        refine lv_iload_n hx hb dMd_joinOne_168 rfl (lv_at hl 1 rfl) ?_
        refine lv_goto (tgt := 179) hx hb dMd_joinOne_169 (by decide) ?_
        exact j179 v1 v2 v5 v1 v5 f_group f_there f_groupMany f_means f_sums hv _ _ _ hP hD hS (lv_sub hl [0, 1, 2, 3] rfl))
  rw [eG]
  refine lv_iconst (v := (-1)) hx hb dMd_joinOne_0 (by decide) ?_
  refine lv_istore_n (lv' := [(1, .int (-1)), (0, .ref q_this)]) hx hb dMd_joinOne_1 rfl hl (by decide) rfl (fun ls hl => ?_)
  refine lv_iconst (v := (-1)) hx hb dMd_joinOne_2 (by decide) ?_
  refine lv_istore_n (lv' := [(2, .int (-1)), (1, .int (-1)), (0, .ref q_this)]) hx hb dMd_joinOne_3 rfl hl (by decide) rfl (fun ls hl => ?_)
  refine lv_lconst (v := 0) hx hb dMd_joinOne_4 (by decide) ?_
  refine lv_lstore_n (lv' := [(3, .long 0), (2, .int (-1)), (1, .int (-1)), (0, .ref q_this)]) hx hb dMd_joinOne_5 rfl hl (by decide) rfl (fun ls hl => ?_)
  refine lv_iconst (v := 0) hx hb dMd_joinOne_6 (by decide) ?_
  refine lv_istore (lv' := [(5, .int 0), (3, .long 0), (2, .int (-1)), (1, .int (-1)), (0, .ref q_this)]) hx hb dMd_joinOne_7 hl (by decide) rfl (fun ls hl => ?_)
  rw [eK9, eG] at hv
  exact hv _ _ _ hP hD hS (lv_sub hl [4, 3, 2, 1, 0] rfl)
