abbrev wdMd_dither (q_this q_samples q_palette q_has q_before q_carried r_isGiven r_gives r_colours r_many r_group r_row r_channelOf r_spreads r_boxMany r_there r_groupMany r_means r_sums r_takers r_takenSums r_order r_roundSums : Nat) (c_samples c_palette c_has c_before c_carried : ClassId) (n_samples n_palette n_has n_before n_carried : Nat) (f_thrown : Int32) (f_width : Int32) (f_height : Int32) (f_different : Int32) (f_groups : Int32) (f_rowSize : Int32) (f_ready : Int32) (f_size : Int32) (f_rounds : Int32) (f_samples : Nat → Int32) (f_palette : Nat → Int32) (f_has : Nat → Int32) (f_before : Nat → Int32) (f_carried : Nat → Int32) : va_W := [(q_this, .inr (8, [.int f_thrown, .int f_width, .int f_height, .ref q_samples, .ref r_isGiven, .ref r_gives, .int f_different, .ref r_colours, .ref r_many, .ref r_group, .int f_groups, .ref r_row, .int f_rowSize, .ref r_channelOf, .ref r_spreads, .ref r_boxMany, .ref r_there, .ref r_groupMany, .ref r_means, .ref r_sums, .int f_ready, .int f_size, .ref q_palette, .ref q_has, .ref r_takers, .ref r_takenSums, .ref r_order, .ref q_before, .int f_rounds, .ref r_roundSums, .ref q_carried])), (q_samples, .inl (c_samples, n_samples, .inl f_samples)), (q_palette, .inl (c_palette, n_palette, .inl f_palette)), (q_has, .inl (c_has, n_has, .inl f_has)), (q_before, .inl (c_before, n_before, .inl f_before)), (q_carried, .inl (c_carried, n_carried, .inl f_carried))]
set_option maxHeartbeats 4000000 in
set_option maxRecDepth 100000 in
theorem metMd_dither (l : Launch) (dC : Nat → ClassId) (dI : Nat → Nat → Nat) (q_this q_samples q_palette q_has q_before q_carried r_isGiven r_gives r_colours r_many r_group r_row r_channelOf r_spreads r_boxMany r_there r_groupMany r_means r_sums r_takers r_takenSums r_order r_roundSums : Nat) (c_samples c_palette c_has c_before c_carried : ClassId) (n_samples n_palette n_has n_before n_carried : Nat) (sz : Nat) (f_thrown : Int32) (f_width : Int32) (f_height : Int32) (f_different : Int32) (f_groups : Int32) (f_rowSize : Int32) (f_ready : Int32) (f_size : Int32) (f_rounds : Int32) (f_samples : Nat → Int32) (f_palette : Nat → Int32) (f_has : Nat → Int32) (f_before : Nat → Int32) (f_carried : Nat → Int32) (x1 : Int32) {post : Int32 → Int32 → (Nat → Int32) → (Nat → Int32) → (Nat → Int32) → Prop} (hw : wpMd_dither n_samples n_palette n_has n_before n_carried f_thrown f_width f_height f_different f_groups f_rowSize f_ready f_size f_rounds f_samples f_palette f_has f_before f_carried x1 post) : Met l yMd_dither (.code yMd_dither bMd_dither 5 (some .int) :: BIG) ({ frames := 3, cells := 0, slots := 0, locals := 79 }) (va_Pc [.ref q_this, .int x1] (gx_pre (dC, dI) vwCl (wdMd_dither q_this q_samples q_palette q_has q_before q_carried r_isGiven r_gives r_colours r_many r_group r_row r_channelOf r_spreads r_boxMany r_there r_groupMany r_means r_sums r_takers r_takenSums r_order r_roundSums c_samples c_palette c_has c_before c_carried n_samples n_palette n_has n_before n_carried f_thrown f_width f_height f_different f_groups f_rowSize f_ready f_size f_rounds f_samples f_palette f_has f_before f_carried) [(c_samples, .int), (c_palette, .int), (c_has, .int), (c_before, .int), (c_carried, .int)] sz)) (va_Qi (fun r (u : Int32 × (Nat → Int32) × (Nat → Int32) × (Nat → Int32)) => post r u.1 u.2.1 u.2.2.1 u.2.2.2) (gx_B (dC, dI) vwCl (va_A (wdMd_dither q_this q_samples q_palette q_has q_before q_carried r_isGiven r_gives r_colours r_many r_group r_row r_channelOf r_spreads r_boxMany r_there r_groupMany r_means r_sums r_takers r_takenSums r_order r_roundSums c_samples c_palette c_has c_before c_carried n_samples n_palette n_has n_before n_carried f_thrown f_width f_height f_different f_groups f_rowSize f_ready f_size f_rounds f_samples f_palette f_has f_before f_carried) sz) (fun (u : Int32 × (Nat → Int32) × (Nat → Int32) × (Nat → Int32)) => (wdMd_dither q_this q_samples q_palette q_has q_before q_carried r_isGiven r_gives r_colours r_many r_group r_row r_channelOf r_spreads r_boxMany r_there r_groupMany r_means r_sums r_takers r_takenSums r_order r_roundSums c_samples c_palette c_has c_before c_carried n_samples n_palette n_has n_before n_carried u.1 f_width f_height f_different f_groups f_rowSize f_ready f_size f_rounds f_samples f_palette u.2.1 u.2.2.1 u.2.2.2))) (va_A (wdMd_dither q_this q_samples q_palette q_has q_before q_carried r_isGiven r_gives r_colours r_many r_group r_row r_channelOf r_spreads r_boxMany r_there r_groupMany r_means r_sums r_takers r_takenSums r_order r_roundSums c_samples c_palette c_has c_before c_carried n_samples n_palette n_has n_before n_carried f_thrown f_width f_height f_different f_groups f_rowSize f_ready f_size f_rounds f_samples f_palette f_has f_before f_carried) sz)) 0 0 (va_A (wdMd_dither q_this q_samples q_palette q_has q_before q_carried r_isGiven r_gives r_colours r_many r_group r_row r_channelOf r_spreads r_boxMany r_there r_groupMany r_means r_sums r_takers r_takenSums r_order r_roundSums c_samples c_palette c_has c_before c_carried n_samples n_palette n_has n_before n_carried f_thrown f_width f_height f_different f_groups f_rowSize f_ready f_size f_rounds f_samples f_palette f_has f_before f_carried) sz) := by
  refine Met.ofW (cc := bMd_dither) (maxL := 5) (ret := (some .int)) (by decide) rfl ?_
  intro p e s m args below meth c s₁ B hml hv
  obtain ⟨rfl, hsz, hP, hK, hD0, hZ⟩ := hv
  have hx := B.exec
  have hb := B.bytes
  have hr := B.returns
  have hts := atoms_spec (ws := (.code yMd_dither bMd_dither 5 (some .int) :: BIG)) B.pre
  have hB : ∀ w ∈ BIG, w.before _ s = true := fun w h => hts w (List.mem_cons_of_mem _ h)
  have hown : s.vm.findClass RMd = some m.cls := findClass_of_methodNamed B.named
  have hlocks := B.notSynchronized
  subst hsz
  have hD := hD0.self (sz := s.heap.size)
  generalize hAe : va_A (wdMd_dither q_this q_samples q_palette q_has q_before q_carried r_isGiven r_gives r_colours r_many r_group r_row r_channelOf r_spreads r_boxMany r_there r_groupMany r_means r_sums r_takers r_takenSums r_order r_roundSums c_samples c_palette c_has c_before c_carried n_samples n_palette n_has n_before n_carried f_thrown f_width f_height f_different f_groups f_rowSize f_ready f_size f_rounds f_samples f_palette f_has f_before f_carried) s.heap.size = A at hD hZ ⊢
  have hA : ∀ q : Nat, s.heap.size ≤ q → A q := fun q h => by rw [← hAe]; exact Or.inr h
  have hS : va_S A s.heap s.heap [] := va_S.rf
  have hl := lv_entry ([.ref q_this, .int x1]) (n := 5) (Nat.le_of_ble_eq_true rfl)
  rw [lg_entry_eq]
  generalize (lg_sl ([.ref q_this, .int x1]) ++ List.replicate (5 - (lg_sl ([.ref q_this, .int x1])).length) Slot.unset).toArray = ls at hl ⊢
  have hl : lv_has ls 5 [(0, .ref q_this), (1, .int x1)] := hl
  have hL7 := (hB _ bw618)
  have hL57 := (hB _ bw638)
  have hL75 := (hB _ bw645)
  have hL78 := (hB _ bw616)
  have hL82 := (hB _ bw617)
  refine gx_abs (fun G eG => ?_)
  obtain ⟨K25, eK25⟩ : ∃ K : Int32 → Int32 → (Nat → Int32) → (Nat → Int32) → (Nat → Int32) → Prop, K = fun v2 f_thrown f_has f_before f_carried => ∀ (H : Heap) (locs : List Loc) (ls : Array Slot), va_P (dC, dI) vwCl (wdMd_dither q_this q_samples q_palette q_has q_before q_carried r_isGiven r_gives r_colours r_many r_group r_row r_channelOf r_spreads r_boxMany r_there r_groupMany r_means r_sums r_takers r_takenSums r_order r_roundSums c_samples c_palette c_has c_before c_carried n_samples n_palette n_has n_before n_carried f_thrown f_width f_height f_different f_groups f_rowSize f_ready f_size f_rounds f_samples f_palette f_has f_before f_carried) H → va_D A (wdMd_dither q_this q_samples q_palette q_has q_before q_carried r_isGiven r_gives r_colours r_many r_group r_row r_channelOf r_spreads r_boxMany r_there r_groupMany r_means r_sums r_takers r_takenSums r_order r_roundSums c_samples c_palette c_has c_before c_carried n_samples n_palette n_has n_before n_carried f_thrown f_width f_height f_different f_groups f_rowSize f_ready f_size f_rounds f_samples f_palette f_has f_before f_carried) → va_S A s.heap H locs → lv_has ls 5 [(0, .ref q_this), (1, .int x1), (2, .int v2)] → G H locs 0 0 (F0 m 25 ls []) := ⟨_, rfl⟩
  obtain ⟨K55, eK55⟩ : ∃ K : Int32 → Int32 → (Nat → Int32) → (Nat → Int32) → (Nat → Int32) → Prop, K = fun v2 f_thrown f_has f_before f_carried => ∀ (H : Heap) (locs : List Loc) (ls : Array Slot), va_P (dC, dI) vwCl (wdMd_dither q_this q_samples q_palette q_has q_before q_carried r_isGiven r_gives r_colours r_many r_group r_row r_channelOf r_spreads r_boxMany r_there r_groupMany r_means r_sums r_takers r_takenSums r_order r_roundSums c_samples c_palette c_has c_before c_carried n_samples n_palette n_has n_before n_carried f_thrown f_width f_height f_different f_groups f_rowSize f_ready f_size f_rounds f_samples f_palette f_has f_before f_carried) H → va_D A (wdMd_dither q_this q_samples q_palette q_has q_before q_carried r_isGiven r_gives r_colours r_many r_group r_row r_channelOf r_spreads r_boxMany r_there r_groupMany r_means r_sums r_takers r_takenSums r_order r_roundSums c_samples c_palette c_has c_before c_carried n_samples n_palette n_has n_before n_carried f_thrown f_width f_height f_different f_groups f_rowSize f_ready f_size f_rounds f_samples f_palette f_has f_before f_carried) → va_S A s.heap H locs → lv_has ls 5 [(0, .ref q_this), (1, .int x1), (2, .int v2)] → G H locs 0 0 (F0 m 55 ls []) := ⟨_, rfl⟩
  obtain ⟨K84, eK84⟩ : ∃ K : Int32 → Int32 → Int32 → Int32 → (Nat → Int32) → (Nat → Int32) → (Nat → Int32) → Prop, K = fun v2 v3 v4 f_thrown f_has f_before f_carried => ∀ (H : Heap) (locs : List Loc) (ls : Array Slot), va_P (dC, dI) vwCl (wdMd_dither q_this q_samples q_palette q_has q_before q_carried r_isGiven r_gives r_colours r_many r_group r_row r_channelOf r_spreads r_boxMany r_there r_groupMany r_means r_sums r_takers r_takenSums r_order r_roundSums c_samples c_palette c_has c_before c_carried n_samples n_palette n_has n_before n_carried f_thrown f_width f_height f_different f_groups f_rowSize f_ready f_size f_rounds f_samples f_palette f_has f_before f_carried) H → va_D A (wdMd_dither q_this q_samples q_palette q_has q_before q_carried r_isGiven r_gives r_colours r_many r_group r_row r_channelOf r_spreads r_boxMany r_there r_groupMany r_means r_sums r_takers r_takenSums r_order r_roundSums c_samples c_palette c_has c_before c_carried n_samples n_palette n_has n_before n_carried f_thrown f_width f_height f_different f_groups f_rowSize f_ready f_size f_rounds f_samples f_palette f_has f_before f_carried) → va_S A s.heap H locs → lv_has ls 5 [(0, .ref q_this), (1, .int x1), (2, .int v2), (3, .int v3), (4, .int v4)] → G H locs 0 0 (F0 m 84 ls []) := ⟨_, rfl⟩
  obtain ⟨K181, eK181⟩ : ∃ K : Int32 → Int32 → Int32 → (Nat → Int32) → (Nat → Int32) → (Nat → Int32) → Prop, K = fun v2 v3 f_thrown f_has f_before f_carried => ∀ (H : Heap) (locs : List Loc) (ls : Array Slot), va_P (dC, dI) vwCl (wdMd_dither q_this q_samples q_palette q_has q_before q_carried r_isGiven r_gives r_colours r_many r_group r_row r_channelOf r_spreads r_boxMany r_there r_groupMany r_means r_sums r_takers r_takenSums r_order r_roundSums c_samples c_palette c_has c_before c_carried n_samples n_palette n_has n_before n_carried f_thrown f_width f_height f_different f_groups f_rowSize f_ready f_size f_rounds f_samples f_palette f_has f_before f_carried) H → va_D A (wdMd_dither q_this q_samples q_palette q_has q_before q_carried r_isGiven r_gives r_colours r_many r_group r_row r_channelOf r_spreads r_boxMany r_there r_groupMany r_means r_sums r_takers r_takenSums r_order r_roundSums c_samples c_palette c_has c_before c_carried n_samples n_palette n_has n_before n_carried f_thrown f_width f_height f_different f_groups f_rowSize f_ready f_size f_rounds f_samples f_palette f_has f_before f_carried) → va_S A s.heap H locs → lv_has ls 5 [(0, .ref q_this), (2, .int v2), (3, .int v3)] → G H locs 0 0 (F0 m 181 ls []) := ⟨_, rfl⟩
  have j220 : ∀ (v3 : Int32) (s0 : Int32) (s1 : Int32) (f_thrown : Int32) (f_has : Nat → Int32) (f_before : Nat → Int32) (f_carried : Nat → Int32), vcMd_dither_220 n_samples n_palette n_has n_before n_carried f_width f_height f_different f_groups f_rowSize f_ready f_size f_rounds f_samples f_palette x1 K25 K55 K84 K181 post v3 s0 s1 f_thrown f_has f_before f_carried → ∀ (H : Heap) (locs : List Loc) (ls : Array Slot), va_P (dC, dI) vwCl (wdMd_dither q_this q_samples q_palette q_has q_before q_carried r_isGiven r_gives r_colours r_many r_group r_row r_channelOf r_spreads r_boxMany r_there r_groupMany r_means r_sums r_takers r_takenSums r_order r_roundSums c_samples c_palette c_has c_before c_carried n_samples n_palette n_has n_before n_carried f_thrown f_width f_height f_different f_groups f_rowSize f_ready f_size f_rounds f_samples f_palette f_has f_before f_carried) H → va_D A (wdMd_dither q_this q_samples q_palette q_has q_before q_carried r_isGiven r_gives r_colours r_many r_group r_row r_channelOf r_spreads r_boxMany r_there r_groupMany r_means r_sums r_takers r_takenSums r_order r_roundSums c_samples c_palette c_has c_before c_carried n_samples n_palette n_has n_before n_carried f_thrown f_width f_height f_different f_groups f_rowSize f_ready f_size f_rounds f_samples f_palette f_has f_before f_carried) → va_S A s.heap H locs → lv_has ls 5 [(0, .ref q_this), (3, .int v3)] → G H locs 0 0 (F0 m 220 ls [.int s0, .int s1]) := by
    intro v3 s0 s1 f_thrown f_has f_before f_carried hv H locs ls hP hD hS hl
    rw [eG]
    unfold vcMd_dither_220 at hv
    refine lv_iadd hx hb dMd_dither_220 ?_
    refine lv_topi (fun v2_1 ev2_1 => ?_)
    have hv := hv v2_1 ev2_1
    refine lv_istore_n (lv' := [(2, .int v2_1), (0, .ref q_this), (3, .int v3)]) hx hb dMd_dither_221 rfl hl (by decide) rfl (fun ls hl => ?_)
    refine lv_iinc (v := v3 + 1) (lv' := [(3, .int (v3 + 1)), (2, .int v2_1), (0, .ref q_this)]) hx hb dMd_dither_222 hl (k := 2) rfl rfl (by decide) rfl (fun ls hl => ?_)
    refine lv_goto (tgt := 181) hx hb dMd_dither_225 (by decide) ?_
    rw [eK181, eG] at hv
    exact hv _ _ _ hP hD hS (lv_sub hl [2, 1, 0] rfl)
  rw [eG] at j220
  have j165 : ∀ (v2 : Int32) (v3 : Int32) (v4 : Int32) (f_thrown : Int32) (f_has : Nat → Int32) (f_before : Nat → Int32) (f_carried : Nat → Int32), vcMd_dither_165 n_samples n_palette n_has n_before n_carried f_width f_height f_different f_groups f_rowSize f_ready f_size f_rounds f_samples f_palette x1 K25 K55 K84 K181 post v2 v3 v4 f_thrown f_has f_before f_carried → ∀ (H : Heap) (locs : List Loc) (ls : Array Slot), va_P (dC, dI) vwCl (wdMd_dither q_this q_samples q_palette q_has q_before q_carried r_isGiven r_gives r_colours r_many r_group r_row r_channelOf r_spreads r_boxMany r_there r_groupMany r_means r_sums r_takers r_takenSums r_order r_roundSums c_samples c_palette c_has c_before c_carried n_samples n_palette n_has n_before n_carried f_thrown f_width f_height f_different f_groups f_rowSize f_ready f_size f_rounds f_samples f_palette f_has f_before f_carried) H → va_D A (wdMd_dither q_this q_samples q_palette q_has q_before q_carried r_isGiven r_gives r_colours r_many r_group r_row r_channelOf r_spreads r_boxMany r_there r_groupMany r_means r_sums r_takers r_takenSums r_order r_roundSums c_samples c_palette c_has c_before c_carried n_samples n_palette n_has n_before n_carried f_thrown f_width f_height f_different f_groups f_rowSize f_ready f_size f_rounds f_samples f_palette f_has f_before f_carried) → va_S A s.heap H locs → lv_has ls 5 [(0, .ref q_this), (1, .int x1), (2, .int v2), (3, .int v3), (4, .int v4)] → G H locs 0 0 (F0 m 165 ls []) := by
    intro v2 v3 v4 f_thrown f_has f_before f_carried hv H locs ls hP hD hS hl
    rw [eG]
    unfold vcMd_dither_165 at hv
    refine lv_iinc (v := v4 + 1) (lv' := [(4, .int (v4 + 1)), (0, .ref q_this), (1, .int x1), (2, .int v2), (3, .int v3)]) hx hb dMd_dither_165 hl (k := 4) rfl rfl (by decide) rfl (fun ls hl => ?_)
    refine lv_goto (tgt := 84) hx hb dMd_dither_168 (by decide) ?_
    rw [eK84, eG] at hv
    exact hv _ _ _ hP hD hS (lv_sub hl [1, 2, 3, 4, 0] rfl)
  rw [eG] at j165
  have j162 : ∀ (v2 : Int32) (v3 : Int32) (v4 : Int32) (s0 : Int32) (s1 : Int32) (s2 : Int32) (f_thrown : Int32) (f_has : Nat → Int32) (f_before : Nat → Int32) (f_carried : Nat → Int32), vcMd_dither_162 n_samples n_palette n_has n_before n_carried f_width f_height f_different f_groups f_rowSize f_ready f_size f_rounds f_samples f_palette x1 K25 K55 K84 K181 post v2 v3 v4 s0 s1 s2 f_thrown f_has f_before f_carried → ∀ (H : Heap) (locs : List Loc) (ls : Array Slot), va_P (dC, dI) vwCl (wdMd_dither q_this q_samples q_palette q_has q_before q_carried r_isGiven r_gives r_colours r_many r_group r_row r_channelOf r_spreads r_boxMany r_there r_groupMany r_means r_sums r_takers r_takenSums r_order r_roundSums c_samples c_palette c_has c_before c_carried n_samples n_palette n_has n_before n_carried f_thrown f_width f_height f_different f_groups f_rowSize f_ready f_size f_rounds f_samples f_palette f_has f_before f_carried) H → va_D A (wdMd_dither q_this q_samples q_palette q_has q_before q_carried r_isGiven r_gives r_colours r_many r_group r_row r_channelOf r_spreads r_boxMany r_there r_groupMany r_means r_sums r_takers r_takenSums r_order r_roundSums c_samples c_palette c_has c_before c_carried n_samples n_palette n_has n_before n_carried f_thrown f_width f_height f_different f_groups f_rowSize f_ready f_size f_rounds f_samples f_palette f_has f_before f_carried) → va_S A s.heap H locs → lv_has ls 5 [(0, .ref q_this), (1, .int x1), (2, .int v2), (3, .int v3), (4, .int v4)] → G H locs 0 0 (F0 m 162 ls [.int s0, .int s1, .int s2, .ref q_this]) := by
    intro v2 v3 v4 s0 s1 s2 f_thrown f_has f_before f_carried hv H locs ls hP hD hS hl
    rw [eG]
    unfold vcMd_dither_162 at hv
    have hFc := va_free (wc := (wdMd_missed q_this q_samples q_palette q_has q_before q_carried r_isGiven r_gives r_colours r_many r_group r_row r_channelOf r_spreads r_boxMany r_there r_groupMany r_means r_sums r_takers r_takenSums r_order r_roundSums c_samples c_palette c_has c_before c_carried n_samples n_palette n_has n_before n_carried f_thrown f_width f_height f_different f_groups f_rowSize f_ready f_size f_rounds f_samples f_palette f_has f_before f_carried)) hD hS hA [0, 1, 2, 3, 4, 5] rfl
    refine gx_v (wr := []) (va_runV (As := [.int s2, .int s1, .int s0]) (rest := []) ⟨hx, hb, hml, hown, hB⟩ (metMd_missed l dC dI q_this q_samples q_palette q_has q_before q_carried r_isGiven r_gives r_colours r_many r_group r_row r_channelOf r_spreads r_boxMany r_there r_groupMany r_means r_sums r_takers r_takenSums r_order r_roundSums c_samples c_palette c_has c_before c_carried n_samples n_palette n_has n_before n_carried H.size f_thrown f_width f_height f_different f_groups f_rowSize f_ready f_size f_rounds f_samples f_palette f_has f_before f_carried s2 s1 s0 hv) (cwV 3 hB (gx_gV bw791 bw792 bw42 bw53 bw793) rfl rfl rfl (by decide +kernel) ⟨(Nat.le_of_ble_eq_true rfl), (Nat.le_of_ble_eq_true rfl)⟩) (gx_preV (ci := 8) (hP.sub (ws' := (wdMd_missed q_this q_samples q_palette q_has q_before q_carried r_isGiven r_gives r_colours r_many r_group r_row r_channelOf r_spreads r_boxMany r_there r_groupMany r_means r_sums r_takers r_takenSums r_order r_roundSums c_samples c_palette c_has c_before c_carried n_samples n_palette n_has n_before n_carried f_thrown f_width f_height f_different f_groups f_rowSize f_ready f_size f_rounds f_samples f_palette f_has f_before f_carried)) [0, 1, 2, 3, 4, 5] rfl) (hK.sub (tys' := [(c_samples, .int), (c_palette, .int), (c_has, .int), (c_before, .int), (c_carried, .int)]) [0, 1, 2, 3, 4] rfl) (hD.sub (ws' := (wdMd_missed q_this q_samples q_palette q_has q_before q_carried r_isGiven r_gives r_colours r_many r_group r_row r_channelOf r_spreads r_boxMany r_there r_groupMany r_means r_sums r_takers r_takenSums r_order r_roundSums c_samples c_palette c_has c_before c_carried n_samples n_palette n_has n_before n_carried f_thrown f_width f_height f_different f_groups f_rowSize f_ready f_size f_rounds f_samples f_palette f_has f_before f_carried)) [0, 1, 2, 3, 4, 5] (by decide) rfl) hZ hS hFc rfl rfl) rfl rfl hl.1 rfl (lv_room (Nat.le_of_ble_eq_true rfl)) dMd_dither_162 ⟨(Nat.le_of_ble_eq_true rfl), (Nat.le_of_ble_eq_true rfl)⟩) hP hD hS hFc [0, 1, 2, 3, 4, 5] [] rfl rfl (by decide) (by decide) (fun u_5 H locs hv hP hD hS => ?_)
    obtain ⟨f_has_2, f_before_3, f_carried_4⟩ := u_5
    have hP : va_P (dC, dI) vwCl (wdMd_dither q_this q_samples q_palette q_has q_before q_carried r_isGiven r_gives r_colours r_many r_group r_row r_channelOf r_spreads r_boxMany r_there r_groupMany r_means r_sums r_takers r_takenSums r_order r_roundSums c_samples c_palette c_has c_before c_carried n_samples n_palette n_has n_before n_carried f_thrown f_width f_height f_different f_groups f_rowSize f_ready f_size f_rounds f_samples f_palette f_has_2 f_before_3 f_carried_4) H := hP.sub [0, 1, 2, 3, 4, 5] rfl
    have hD : va_D A (wdMd_dither q_this q_samples q_palette q_has q_before q_carried r_isGiven r_gives r_colours r_many r_group r_row r_channelOf r_spreads r_boxMany r_there r_groupMany r_means r_sums r_takers r_takenSums r_order r_roundSums c_samples c_palette c_has c_before c_carried n_samples n_palette n_has n_before n_carried f_thrown f_width f_height f_different f_groups f_rowSize f_ready f_size f_rounds f_samples f_palette f_has_2 f_before_3 f_carried_4) := hD.sub [0, 1, 2, 3, 4, 5] (by decide) rfl
    exact j165 v2 v3 v4 f_thrown f_has_2 f_before_3 f_carried_4 hv _ _ _ hP hD hS (lv_sub hl [0, 1, 2, 3, 4] rfl)
  rw [eG] at j162
  have j152 : ∀ (v2 : Int32) (v3 : Int32) (v4 : Int32) (s0 : Int32) (f_thrown : Int32) (f_has : Nat → Int32) (f_before : Nat → Int32) (f_carried : Nat → Int32), vcMd_dither_152 n_samples n_palette n_has n_before n_carried f_width f_height f_different f_groups f_rowSize f_ready f_size f_rounds f_samples f_palette x1 K25 K55 K84 K181 post v2 v3 v4 s0 f_thrown f_has f_before f_carried → ∀ (H : Heap) (locs : List Loc) (ls : Array Slot), va_P (dC, dI) vwCl (wdMd_dither q_this q_samples q_palette q_has q_before q_carried r_isGiven r_gives r_colours r_many r_group r_row r_channelOf r_spreads r_boxMany r_there r_groupMany r_means r_sums r_takers r_takenSums r_order r_roundSums c_samples c_palette c_has c_before c_carried n_samples n_palette n_has n_before n_carried f_thrown f_width f_height f_different f_groups f_rowSize f_ready f_size f_rounds f_samples f_palette f_has f_before f_carried) H → va_D A (wdMd_dither q_this q_samples q_palette q_has q_before q_carried r_isGiven r_gives r_colours r_many r_group r_row r_channelOf r_spreads r_boxMany r_there r_groupMany r_means r_sums r_takers r_takenSums r_order r_roundSums c_samples c_palette c_has c_before c_carried n_samples n_palette n_has n_before n_carried f_thrown f_width f_height f_different f_groups f_rowSize f_ready f_size f_rounds f_samples f_palette f_has f_before f_carried) → va_S A s.heap H locs → lv_has ls 5 [(0, .ref q_this), (1, .int x1), (2, .int v2), (3, .int v3), (4, .int v4)] → G H locs 0 0 (F0 m 152 ls [.int s0, .ref q_this]) := by
    intro v2 v3 v4 s0 f_thrown f_has f_before f_carried hv H locs ls hP hD hS hl
    rw [eG]
    unfold vcMd_dither_152 at hv
    refine lv_iload_n hx hb dMd_dither_152 rfl (lv_at hl 2 rfl) ?_
    refine lv_iload_n hx hb dMd_dither_153 rfl (lv_at hl 3 rfl) ?_
    refine lv_if_eq (tgt := 161) hx hb dMd_dither_154 (by decide) (fun c_6 => ?_) (fun c_6 => ?_)
    · have hv := hv.1 c_6
      refine lv_iconst (v := 1) hx hb dMd_dither_161 (by decide) ?_
      exact j162 v2 v3 v4 1 v2 s0 f_thrown f_has f_before f_carried hv _ _ _ hP hD hS (lv_sub hl [0, 1, 2, 3, 4] rfl)
    · have hv := hv.2 c_6
      refine lv_iconst (v := (-1)) hx hb dMd_dither_157 (by decide) ?_
      refine lv_goto (tgt := 162) hx hb dMd_dither_158 (by decide) ?_
      exact j162 v2 v3 v4 (-1) v2 s0 f_thrown f_has f_before f_carried hv _ _ _ hP hD hS (lv_sub hl [0, 1, 2, 3, 4] rfl)
  rw [eG] at j152
  have j80 : ∀ (v2 : Int32) (s0 : Int32) (f_thrown : Int32) (f_has : Nat → Int32) (f_before : Nat → Int32) (f_carried : Nat → Int32), vcMd_dither_80 n_samples n_palette n_has n_before n_carried f_width f_height f_different f_groups f_rowSize f_ready f_size f_rounds f_samples f_palette x1 K25 K55 K84 K181 post v2 s0 f_thrown f_has f_before f_carried → ∀ (H : Heap) (locs : List Loc) (ls : Array Slot), va_P (dC, dI) vwCl (wdMd_dither q_this q_samples q_palette q_has q_before q_carried r_isGiven r_gives r_colours r_many r_group r_row r_channelOf r_spreads r_boxMany r_there r_groupMany r_means r_sums r_takers r_takenSums r_order r_roundSums c_samples c_palette c_has c_before c_carried n_samples n_palette n_has n_before n_carried f_thrown f_width f_height f_different f_groups f_rowSize f_ready f_size f_rounds f_samples f_palette f_has f_before f_carried) H → va_D A (wdMd_dither q_this q_samples q_palette q_has q_before q_carried r_isGiven r_gives r_colours r_many r_group r_row r_channelOf r_spreads r_boxMany r_there r_groupMany r_means r_sums r_takers r_takenSums r_order r_roundSums c_samples c_palette c_has c_before c_carried n_samples n_palette n_has n_before n_carried f_thrown f_width f_height f_different f_groups f_rowSize f_ready f_size f_rounds f_samples f_palette f_has f_before f_carried) → va_S A s.heap H locs → lv_has ls 5 [(0, .ref q_this), (1, .int x1), (2, .int v2)] → G H locs 0 0 (F0 m 80 ls [.int s0]) := by
    intro v2 s0 f_thrown f_has f_before f_carried hv H locs ls hP hD hS hl
    rw [eG]
    unfold vcMd_dither_80 at hv
    refine lv_istore_n (lv' := [(3, .int s0), (0, .ref q_this), (1, .int x1), (2, .int v2)]) hx hb dMd_dither_80 rfl hl (by decide) rfl (fun ls hl => ?_)
    refine lv_iconst (v := 0) hx hb dMd_dither_81 (by decide) ?_
    refine lv_istore (lv' := [(4, .int 0), (3, .int s0), (0, .ref q_this), (1, .int x1), (2, .int v2)]) hx hb dMd_dither_82 hl (by decide) rfl (fun ls hl => ?_)
    rw [eK84, eG] at hv
    exact hv _ _ _ hP hD hS (lv_sub hl [2, 3, 4, 1, 0] rfl)
  rw [eG] at j80
  have j79 : ∀ (v2 : Int32) (f_thrown : Int32) (f_has : Nat → Int32) (f_before : Nat → Int32) (f_carried : Nat → Int32), vcMd_dither_79 n_samples n_palette n_has n_before n_carried f_width f_height f_different f_groups f_rowSize f_ready f_size f_rounds f_samples f_palette x1 K25 K55 K84 K181 post v2 f_thrown f_has f_before f_carried → ∀ (H : Heap) (locs : List Loc) (ls : Array Slot), va_P (dC, dI) vwCl (wdMd_dither q_this q_samples q_palette q_has q_before q_carried r_isGiven r_gives r_colours r_many r_group r_row r_channelOf r_spreads r_boxMany r_there r_groupMany r_means r_sums r_takers r_takenSums r_order r_roundSums c_samples c_palette c_has c_before c_carried n_samples n_palette n_has n_before n_carried f_thrown f_width f_height f_different f_groups f_rowSize f_ready f_size f_rounds f_samples f_palette f_has f_before f_carried) H → va_D A (wdMd_dither q_this q_samples q_palette q_has q_before q_carried r_isGiven r_gives r_colours r_many r_group r_row r_channelOf r_spreads r_boxMany r_there r_groupMany r_means r_sums r_takers r_takenSums r_order r_roundSums c_samples c_palette c_has c_before c_carried n_samples n_palette n_has n_before n_carried f_thrown f_width f_height f_different f_groups f_rowSize f_ready f_size f_rounds f_samples f_palette f_has f_before f_carried) → va_S A s.heap H locs → lv_has ls 5 [(0, .ref q_this), (1, .int x1), (2, .int v2)] → G H locs 0 0 (F0 m 79 ls []) := by
    intro v2 f_thrown f_has f_before f_carried hv H locs ls hP hD hS hl
    rw [eG]
    unfold vcMd_dither_79 at hv
    refine lv_iconst (v := 0) hx hb dMd_dither_79 (by decide) ?_
    exact j80 v2 0 f_thrown f_has f_before f_carried hv _ _ _ hP hD hS (lv_sub hl [0, 1, 2] rfl)
  rw [eG] at j79
  have j15 : ∀ (s0 : Int32), vcMd_dither_15 n_samples n_palette n_has n_before n_carried f_width f_height f_different f_groups f_rowSize f_ready f_size f_rounds f_samples f_palette x1 K25 K55 K84 K181 post s0 f_thrown f_has f_before f_carried → ∀ (H : Heap) (locs : List Loc) (ls : Array Slot), va_P (dC, dI) vwCl (wdMd_dither q_this q_samples q_palette q_has q_before q_carried r_isGiven r_gives r_colours r_many r_group r_row r_channelOf r_spreads r_boxMany r_there r_groupMany r_means r_sums r_takers r_takenSums r_order r_roundSums c_samples c_palette c_has c_before c_carried n_samples n_palette n_has n_before n_carried f_thrown f_width f_height f_different f_groups f_rowSize f_ready f_size f_rounds f_samples f_palette f_has f_before f_carried) H → va_D A (wdMd_dither q_this q_samples q_palette q_has q_before q_carried r_isGiven r_gives r_colours r_many r_group r_row r_channelOf r_spreads r_boxMany r_there r_groupMany r_means r_sums r_takers r_takenSums r_order r_roundSums c_samples c_palette c_has c_before c_carried n_samples n_palette n_has n_before n_carried f_thrown f_width f_height f_different f_groups f_rowSize f_ready f_size f_rounds f_samples f_palette f_has f_before f_carried) → va_S A s.heap H locs → lv_has ls 5 [(0, .ref q_this), (1, .int x1)] → G H locs 0 0 (F0 m 15 ls [.int s0, .ref q_this]) := by
    intro s0 hv H locs ls hP hD hS hl
    rw [eG]
    unfold vcMd_dither_15 at hv
    have hFc := va_free (wc := (wdMd_tells q_this q_samples r_isGiven r_gives r_colours r_many r_group r_row r_channelOf r_spreads r_boxMany r_there r_groupMany r_means r_sums q_palette q_has r_takers r_takenSums r_order q_before r_roundSums q_carried f_thrown f_width f_height f_different f_groups f_rowSize f_ready f_size f_rounds)) hD hS hA [0] rfl
    refine gx_i (wr := [(q_samples, .inl (c_samples, n_samples, .inl f_samples)), (q_palette, .inl (c_palette, n_palette, .inl f_palette)), (q_has, .inl (c_has, n_has, .inl f_has)), (q_before, .inl (c_before, n_before, .inl f_before)), (q_carried, .inl (c_carried, n_carried, .inl f_carried))]) (va_runV (As := [.int s0]) (rest := []) ⟨hx, hb, hml, hown, hB⟩ (metMd_tells l dC dI q_this q_samples r_isGiven r_gives r_colours r_many r_group r_row r_channelOf r_spreads r_boxMany r_there r_groupMany r_means r_sums q_palette q_has r_takers r_takenSums r_order q_before r_roundSums q_carried H.size f_thrown f_width f_height f_different f_groups f_rowSize f_ready f_size f_rounds s0 hv) (cwV 1 hB (gx_gV bw772 bw773 bw41 bw53 bw774) rfl rfl rfl (by decide +kernel) ⟨(Nat.le_of_ble_eq_true rfl), (Nat.le_of_ble_eq_true rfl)⟩) (gx_preV (ci := 8) (hP.sub (ws' := (wdMd_tells q_this q_samples r_isGiven r_gives r_colours r_many r_group r_row r_channelOf r_spreads r_boxMany r_there r_groupMany r_means r_sums q_palette q_has r_takers r_takenSums r_order q_before r_roundSums q_carried f_thrown f_width f_height f_different f_groups f_rowSize f_ready f_size f_rounds)) [0] rfl) (hK.sub (tys' := []) [] rfl) (hD.sub (ws' := (wdMd_tells q_this q_samples r_isGiven r_gives r_colours r_many r_group r_row r_channelOf r_spreads r_boxMany r_there r_groupMany r_means r_sums q_palette q_has r_takers r_takenSums r_order q_before r_roundSums q_carried f_thrown f_width f_height f_different f_groups f_rowSize f_ready f_size f_rounds)) [0] (by decide) rfl) hZ hS hFc rfl rfl) rfl rfl hl.1 rfl (lv_room (Nat.le_of_ble_eq_true rfl)) dMd_dither_15 ⟨(Nat.le_of_ble_eq_true rfl), (Nat.le_of_ble_eq_true rfl)⟩) hP hD hS hFc [0] [1, 2, 3, 4, 5] rfl rfl (by decide) (by decide) (fun r_8 u_9 H locs hv hP hD hS => ?_)
    obtain ⟨f_thrown_7, rfl⟩ : ∃ z, z = u_9 := ⟨_, rfl⟩
    have hP : va_P (dC, dI) vwCl (wdMd_dither q_this q_samples q_palette q_has q_before q_carried r_isGiven r_gives r_colours r_many r_group r_row r_channelOf r_spreads r_boxMany r_there r_groupMany r_means r_sums r_takers r_takenSums r_order r_roundSums c_samples c_palette c_has c_before c_carried n_samples n_palette n_has n_before n_carried f_thrown_7 f_width f_height f_different f_groups f_rowSize f_ready f_size f_rounds f_samples f_palette f_has f_before f_carried) H := hP.sub [5, 0, 1, 2, 3, 4] rfl
    have hD : va_D A (wdMd_dither q_this q_samples q_palette q_has q_before q_carried r_isGiven r_gives r_colours r_many r_group r_row r_channelOf r_spreads r_boxMany r_there r_groupMany r_means r_sums r_takers r_takenSums r_order r_roundSums c_samples c_palette c_has c_before c_carried n_samples n_palette n_has n_before n_carried f_thrown_7 f_width f_height f_different f_groups f_rowSize f_ready f_size f_rounds f_samples f_palette f_has f_before f_carried) := hD.sub [5, 0, 1, 2, 3, 4] (by decide) rfl
    refine lv_if_ne (tgt := 23) hx hb dMd_dither_18 (by decide) (fun c_10 => ?_) (fun c_10 => ?_)
    · have hv := hv.1 c_10
      refine lv_iconst (v := 0) hx hb dMd_dither_23 (by decide) ?_
      refine lv_istore_n (lv' := [(2, .int 0), (0, .ref q_this), (1, .int x1)]) hx hb dMd_dither_24 rfl hl (by decide) rfl (fun ls hl => ?_)
      rw [eK25, eG] at hv
      exact hv _ _ _ hP hD hS (lv_sub hl [1, 2, 0] rfl)
    · have hv := hv.2 c_10
      refine lv_iconst (v := 0) hx hb dMd_dither_21 (by decide) ?_
      exact W.iret (v := 0) hx hb hr (fun t ht hW => ⟨⟨_, (f_thrown_7, f_has, f_before, f_carried), rfl, hv, by rw [ht]; exact hP, hD⟩, hS.F ht⟩) hS.2.2 dMd_dither_22
  rw [eG] at j15
  have j14 : vcMd_dither_14 n_samples n_palette n_has n_before n_carried f_width f_height f_different f_groups f_rowSize f_ready f_size f_rounds f_samples f_palette x1 K25 K55 K84 K181 post f_thrown f_has f_before f_carried → ∀ (H : Heap) (locs : List Loc) (ls : Array Slot), va_P (dC, dI) vwCl (wdMd_dither q_this q_samples q_palette q_has q_before q_carried r_isGiven r_gives r_colours r_many r_group r_row r_channelOf r_spreads r_boxMany r_there r_groupMany r_means r_sums r_takers r_takenSums r_order r_roundSums c_samples c_palette c_has c_before c_carried n_samples n_palette n_has n_before n_carried f_thrown f_width f_height f_different f_groups f_rowSize f_ready f_size f_rounds f_samples f_palette f_has f_before f_carried) H → va_D A (wdMd_dither q_this q_samples q_palette q_has q_before q_carried r_isGiven r_gives r_colours r_many r_group r_row r_channelOf r_spreads r_boxMany r_there r_groupMany r_means r_sums r_takers r_takenSums r_order r_roundSums c_samples c_palette c_has c_before c_carried n_samples n_palette n_has n_before n_carried f_thrown f_width f_height f_different f_groups f_rowSize f_ready f_size f_rounds f_samples f_palette f_has f_before f_carried) → va_S A s.heap H locs → lv_has ls 5 [(0, .ref q_this), (1, .int x1)] → G H locs 0 0 (F0 m 14 ls [.ref q_this]) := by
    intro  hv H locs ls hP hD hS hl
    rw [eG]
    unfold vcMd_dither_14 at hv
    refine lv_iconst (v := 0) hx hb dMd_dither_14 (by decide) ?_
    exact j15 0 hv _ _ _ hP hD hS (lv_sub hl [0, 1] rfl)
  rw [eG] at j14
  unfold wpMd_dither at hw
  have hv := hw K25 K55 K84 K181
  have hv := hv (by
    intro v2 f_thrown f_has f_before f_carried hv
    rw [eK25]
    intro H locs ls hP hD hS hl
    rw [eG]
    unfold vcMd_dither_25 at hv
    refine lv_iload_n hx hb dMd_dither_25 rfl (lv_at hl 2 rfl) ?_
    refine lv_iconst (v := 4) hx hb dMd_dither_26 (by decide) ?_
    refine lv_aload_n hx hb dMd_dither_27 rfl (lv_at hl 0 rfl) ?_
    refine va_get (D := (dC, dI)) (ci := 8) (v := .int f_width) (C := RMd) (T := TMd) (N := 31) hx hb hB hiMd hown hK hP 0 rfl rfl 1 (by decide) hL78 (fun _ h9 => h9) rfl dMd_dither_28 ?_
    refine lv_imul hx hb dMd_dither_31 ?_
    refine lv_aload_n hx hb dMd_dither_32 rfl (lv_at hl 0 rfl) ?_
    refine va_get (D := (dC, dI)) (ci := 8) (v := .int f_height) (C := RMd) (T := TMd) (N := 31) hx hb hB hiMd hown hK hP 0 rfl rfl 2 (by decide) hL82 (fun _ h9 => h9) rfl dMd_dither_33 ?_
    refine lv_imul hx hb dMd_dither_36 ?_
    refine lv_icmp_ge (tgt := 53) hx hb dMd_dither_37 (by decide) (fun c_11 => ?_) (fun c_11 => ?_)
    · have hv := hv.1 c_11
      refine lv_iconst (v := 0) hx hb dMd_dither_53 (by decide) ?_
      refine lv_istore_n (lv' := [(2, .int 0), (0, .ref q_this), (1, .int x1)]) hx hb dMd_dither_54 rfl hl (by decide) rfl (fun ls hl => ?_)
      rw [eK55, eG] at hv
      exact hv _ _ _ hP hD hS (lv_sub hl [1, 2, 0] rfl)
    · have hv := hv.2 c_11
      refine lv_aload_n hx hb dMd_dither_40 rfl (lv_at hl 0 rfl) ?_
      refine va_get (D := (dC, dI)) (ci := 8) (v := .ref q_carried) (C := RMd) (T := TMd) (N := 31) hx hb hB hiMd hown hK hP 0 rfl rfl 30 (by decide) hL75 (fun _ h9 => h9) rfl dMd_dither_41 ?_
      refine lv_iload_n hx hb dMd_dither_44 rfl (lv_at hl 2 rfl) ?_
      refine lv_iconst (v := 0) hx hb dMd_dither_45 (by decide) ?_
      obtain ⟨h_12, hv⟩ := hv
      refine va_iast hx hb hK hP hD hS 5 4 rfl rfl h_12 dMd_dither_46 (fun H locs hP hD hS => ?_)
      have hP : va_P (dC, dI) vwCl (wdMd_dither q_this q_samples q_palette q_has q_before q_carried r_isGiven r_gives r_colours r_many r_group r_row r_channelOf r_spreads r_boxMany r_there r_groupMany r_means r_sums r_takers r_takenSums r_order r_roundSums c_samples c_palette c_has c_before c_carried n_samples n_palette n_has n_before n_carried f_thrown f_width f_height f_different f_groups f_rowSize f_ready f_size f_rounds f_samples f_palette f_has f_before (upd f_carried v2.toNatClampNeg 0)) H := hP
      have hD : va_D A (wdMd_dither q_this q_samples q_palette q_has q_before q_carried r_isGiven r_gives r_colours r_many r_group r_row r_channelOf r_spreads r_boxMany r_there r_groupMany r_means r_sums r_takers r_takenSums r_order r_roundSums c_samples c_palette c_has c_before c_carried n_samples n_palette n_has n_before n_carried f_thrown f_width f_height f_different f_groups f_rowSize f_ready f_size f_rounds f_samples f_palette f_has f_before (upd f_carried v2.toNatClampNeg 0)) := hD
      refine lv_iinc (v := v2 + 1) (lv' := [(2, .int (v2 + 1)), (0, .ref q_this), (1, .int x1)]) hx hb dMd_dither_47 hl (k := 2) rfl rfl (by decide) rfl (fun ls hl => ?_)
      refine lv_goto (tgt := 25) hx hb dMd_dither_50 (by decide) ?_
      rw [eK25, eG] at hv
      exact hv _ _ _ hP hD hS (lv_sub hl [1, 2, 0] rfl))
  have hv := hv (by
    intro v2 f_thrown f_has f_before f_carried hv
    rw [eK55]
    intro H locs ls hP hD hS hl
    rw [eG]
    unfold vcMd_dither_55 at hv
    refine lv_iload_n hx hb dMd_dither_55 rfl (lv_at hl 2 rfl) ?_
    refine lv_aload_n hx hb dMd_dither_56 rfl (lv_at hl 0 rfl) ?_
    refine va_get (D := (dC, dI)) (ci := 8) (v := .int f_height) (C := RMd) (T := TMd) (N := 31) hx hb hB hiMd hown hK hP 0 rfl rfl 2 (by decide) hL82 (fun _ h9 => h9) rfl dMd_dither_57 ?_
    refine lv_icmp_ge (tgt := 177) hx hb dMd_dither_60 (by decide) (fun c_14 => ?_) (fun c_14 => ?_)
    · have hv := hv.1 c_14
      refine lv_iconst (v := 0) hx hb dMd_dither_177 (by decide) ?_
      refine lv_istore_n (lv' := [(2, .int 0), (0, .ref q_this), (1, .int x1)]) hx hb dMd_dither_178 rfl hl (by decide) rfl (fun ls hl => ?_)
      refine lv_iconst (v := 0) hx hb dMd_dither_179 (by decide) ?_
      refine lv_istore_n (lv' := [(3, .int 0), (2, .int 0), (0, .ref q_this), (1, .int x1)]) hx hb dMd_dither_180 rfl hl (by decide) rfl (fun ls hl => ?_)
      rw [eK181, eG] at hv
      exact hv _ _ _ hP hD hS (lv_sub hl [2, 1, 0] rfl)
    · have hv := hv.2 c_14
      refine lv_iload_n hx hb dMd_dither_63 rfl (lv_at hl 1 rfl) ?_
      refine lv_iconst (v := 2) hx hb dMd_dither_64 (by decide) ?_
      refine lv_icmp_ne (tgt := 79) hx hb dMd_dither_65 (by decide) (fun c_15 => ?_) (fun c_15 => ?_)
      · have hv := hv.1 c_15
        exact j79 v2 f_thrown f_has f_before f_carried hv _ _ _ hP hD hS (lv_sub hl [0, 1, 2] rfl)
      · have hv := hv.2 c_15
        refine lv_iload_n hx hb dMd_dither_68 rfl (lv_at hl 2 rfl) ?_
        refine lv_iconst (v := 2) hx hb dMd_dither_69 (by decide) ?_
        obtain ⟨h_16, hv⟩ := hv
        refine lv_irem hx hb dMd_dither_70 h_16 ?_
        refine lv_iconst (v := 1) hx hb dMd_dither_71 (by decide) ?_
        refine lv_icmp_ne (tgt := 79) hx hb dMd_dither_72 (by decide) (fun c_17 => ?_) (fun c_17 => ?_)
        · have hv := hv.1 c_17
          exact j79 v2 f_thrown f_has f_before f_carried hv _ _ _ hP hD hS (lv_sub hl [0, 1, 2] rfl)
        · have hv := hv.2 c_17
          refine lv_iconst (v := 1) hx hb dMd_dither_75 (by decide) ?_
          refine lv_goto (tgt := 80) hx hb dMd_dither_76 (by decide) ?_
          exact j80 v2 1 f_thrown f_has f_before f_carried hv _ _ _ hP hD hS (lv_sub hl [0, 1, 2] rfl))
  have hv := hv (by
    intro v2 v3 v4 f_thrown f_has f_before f_carried hv
    rw [eK84]
    intro H locs ls hP hD hS hl
    rw [eG]
    unfold vcMd_dither_84 at hv
    refine lv_iload hx hb dMd_dither_84 (lv_at hl 4 rfl) ?_
    refine lv_aload_n hx hb dMd_dither_86 rfl (lv_at hl 0 rfl) ?_
    refine va_get (D := (dC, dI)) (ci := 8) (v := .int f_width) (C := RMd) (T := TMd) (N := 31) hx hb hB hiMd hown hK hP 0 rfl rfl 1 (by decide) hL78 (fun _ h9 => h9) rfl dMd_dither_87 ?_
    refine lv_icmp_ge (tgt := 171) hx hb dMd_dither_90 (by decide) (fun c_18 => ?_) (fun c_18 => ?_)
    · have hv := hv.1 c_18
      refine lv_iinc (v := v2 + 1) (lv' := [(2, .int (v2 + 1)), (0, .ref q_this), (1, .int x1), (3, .int v3), (4, .int v4)]) hx hb dMd_dither_171 hl (k := 2) rfl rfl (by decide) rfl (fun ls hl => ?_)
      refine lv_goto (tgt := 55) hx hb dMd_dither_174 (by decide) ?_
      rw [eK55, eG] at hv
      exact hv _ _ _ hP hD hS (lv_sub hl [1, 2, 0] rfl)
    · have hv := hv.2 c_18
      refine lv_iload_n hx hb dMd_dither_93 rfl (lv_at hl 1 rfl) ?_
      refine lv_if_ne (tgt := 133) hx hb dMd_dither_94 (by decide) (fun c_19 => ?_) (fun c_19 => ?_)
      · have hv := hv.1 c_19
        refine lv_aload_n hx hb dMd_dither_133 rfl (lv_at hl 0 rfl) ?_
        refine lv_iload_n hx hb dMd_dither_134 rfl (lv_at hl 3 rfl) ?_
        refine lv_if_eq (tgt := 150) hx hb dMd_dither_135 (by decide) (fun c_20 => ?_) (fun c_20 => ?_)
        · have hv := hv.1 c_20
          refine lv_iload hx hb dMd_dither_150 (lv_at hl 4 rfl) ?_
          exact j152 v2 v3 v4 v4 f_thrown f_has f_before f_carried hv _ _ _ hP hD hS (lv_sub hl [0, 1, 2, 3, 4] rfl)
        · have hv := hv.2 c_20
          refine lv_aload_n hx hb dMd_dither_138 rfl (lv_at hl 0 rfl) ?_
          refine va_get (D := (dC, dI)) (ci := 8) (v := .int f_width) (C := RMd) (T := TMd) (N := 31) hx hb hB hiMd hown hK hP 0 rfl rfl 1 (by decide) hL78 (fun _ h9 => h9) rfl dMd_dither_139 ?_
          refine lv_iconst (v := 1) hx hb dMd_dither_142 (by decide) ?_
          refine lv_isub hx hb dMd_dither_143 ?_
          refine lv_iload hx hb dMd_dither_144 (lv_at hl 4 rfl) ?_
          refine lv_isub hx hb dMd_dither_146 ?_
          refine lv_goto (tgt := 152) hx hb dMd_dither_147 (by decide) ?_
          exact j152 v2 v3 v4 ((f_width - 1) - v4) f_thrown f_has f_before f_carried hv _ _ _ hP hD hS (lv_sub hl [0, 1, 2, 3, 4] rfl)
      · have hv := hv.2 c_19
        refine lv_aload_n hx hb dMd_dither_97 rfl (lv_at hl 0 rfl) ?_
        refine va_get (D := (dC, dI)) (ci := 8) (v := .ref q_has) (C := RMd) (T := TMd) (N := 31) hx hb hB hiMd hown hK hP 0 rfl rfl 23 (by decide) hL57 (fun _ h9 => h9) rfl dMd_dither_98 ?_
        refine lv_aload_n hx hb dMd_dither_101 rfl (lv_at hl 0 rfl) ?_
        refine va_get (D := (dC, dI)) (ci := 8) (v := .int f_width) (C := RMd) (T := TMd) (N := 31) hx hb hB hiMd hown hK hP 0 rfl rfl 1 (by decide) hL78 (fun _ h9 => h9) rfl dMd_dither_102 ?_
        refine lv_iload_n hx hb dMd_dither_105 rfl (lv_at hl 2 rfl) ?_
        refine lv_imul hx hb dMd_dither_106 ?_
        refine lv_iload hx hb dMd_dither_107 (lv_at hl 4 rfl) ?_
        refine lv_iadd hx hb dMd_dither_109 ?_
        refine lv_aload_n hx hb dMd_dither_110 rfl (lv_at hl 0 rfl) ?_
        refine lv_aload_n hx hb dMd_dither_111 rfl (lv_at hl 0 rfl) ?_
        refine va_get (D := (dC, dI)) (ci := 8) (v := .ref q_samples) (C := RMd) (T := TMd) (N := 31) hx hb hB hiMd hown hK hP 0 rfl rfl 3 (by decide) hL7 (fun _ h9 => h9) rfl dMd_dither_112 ?_
        refine lv_iconst (v := 4) hx hb dMd_dither_115 (by decide) ?_
        refine lv_aload_n hx hb dMd_dither_116 rfl (lv_at hl 0 rfl) ?_
        refine va_get (D := (dC, dI)) (ci := 8) (v := .int f_width) (C := RMd) (T := TMd) (N := 31) hx hb hB hiMd hown hK hP 0 rfl rfl 1 (by decide) hL78 (fun _ h9 => h9) rfl dMd_dither_117 ?_
        refine lv_iload_n hx hb dMd_dither_120 rfl (lv_at hl 2 rfl) ?_
        refine lv_imul hx hb dMd_dither_121 ?_
        refine lv_iload hx hb dMd_dither_122 (lv_at hl 4 rfl) ?_
        refine lv_iadd hx hb dMd_dither_124 ?_
        refine lv_imul hx hb dMd_dither_125 ?_
        refine gx_ri (va_runV (As := [.ref q_samples, .int (4 * ((f_width * v2) + v4))]) (rest := [.int ((f_width * v2) + v4), .ref q_has]) ⟨hx, hb, hml, hown, hB⟩ (metMd_nearestTo l dC dI q_this q_palette q_samples q_samples r_isGiven r_gives r_colours r_many r_group r_row r_channelOf r_spreads r_boxMany r_there r_groupMany r_means r_sums q_has r_takers r_takenSums r_order q_before r_roundSums q_carried c_palette c_samples n_palette n_samples H.size f_thrown f_width f_height f_different f_groups f_rowSize f_ready f_size f_rounds f_palette f_samples (4 * ((f_width * v2) + v4)) hv) (cwV 2 hB (gx_gV bw759 bw760 bw38 bw53 bw761) rfl rfl rfl (by decide +kernel) ⟨(Nat.le_of_ble_eq_true rfl), (Nat.le_of_ble_eq_true rfl)⟩) (gx_rpreV (ci := 8) (hP.sub (ws' := (wdMd_nearestTo q_this q_palette q_samples q_samples r_isGiven r_gives r_colours r_many r_group r_row r_channelOf r_spreads r_boxMany r_there r_groupMany r_means r_sums q_has r_takers r_takenSums r_order q_before r_roundSums q_carried c_palette c_samples n_palette n_samples f_thrown f_width f_height f_different f_groups f_rowSize f_ready f_size f_rounds f_palette f_samples)) [0, 2, 1] rfl) (hK.sub (tys' := [(c_palette, .int), (c_samples, .int)]) [1, 0] rfl) hZ hS hA rfl rfl) rfl rfl hl.1 rfl (lv_room (Nat.le_of_ble_eq_true rfl)) dMd_dither_126 ⟨(Nat.le_of_ble_eq_true rfl), (Nat.le_of_ble_eq_true rfl)⟩) hP hS hA (fun r_21 H locs hv hP hS => ?_)
        obtain ⟨h_23, hv⟩ := hv
        refine va_iast hx hb hK hP hD hS 3 2 rfl rfl h_23 dMd_dither_129 (fun H locs hP hD hS => ?_)
        have hP : va_P (dC, dI) vwCl (wdMd_dither q_this q_samples q_palette q_has q_before q_carried r_isGiven r_gives r_colours r_many r_group r_row r_channelOf r_spreads r_boxMany r_there r_groupMany r_means r_sums r_takers r_takenSums r_order r_roundSums c_samples c_palette c_has c_before c_carried n_samples n_palette n_has n_before n_carried f_thrown f_width f_height f_different f_groups f_rowSize f_ready f_size f_rounds f_samples f_palette (upd f_has ((f_width * v2) + v4).toNatClampNeg r_21) f_before f_carried) H := hP
        have hD : va_D A (wdMd_dither q_this q_samples q_palette q_has q_before q_carried r_isGiven r_gives r_colours r_many r_group r_row r_channelOf r_spreads r_boxMany r_there r_groupMany r_means r_sums r_takers r_takenSums r_order r_roundSums c_samples c_palette c_has c_before c_carried n_samples n_palette n_has n_before n_carried f_thrown f_width f_height f_different f_groups f_rowSize f_ready f_size f_rounds f_samples f_palette (upd f_has ((f_width * v2) + v4).toNatClampNeg r_21) f_before f_carried) := hD
        refine lv_goto (tgt := 165) hx hb dMd_dither_130 (by decide) ?_
        exact j165 v2 v3 v4 f_thrown (upd f_has ((f_width * v2) + v4).toNatClampNeg r_21) f_before f_carried hv _ _ _ hP hD hS (lv_sub hl [0, 1, 2, 3, 4] rfl))
  have hv := hv (by
    intro v2 v3 f_thrown f_has f_before f_carried hv
    rw [eK181]
    intro H locs ls hP hD hS hl
    rw [eG]
    unfold vcMd_dither_181 at hv
    refine lv_iload_n hx hb dMd_dither_181 rfl (lv_at hl 2 rfl) ?_
    refine lv_aload_n hx hb dMd_dither_182 rfl (lv_at hl 0 rfl) ?_
    refine va_get (D := (dC, dI)) (ci := 8) (v := .int f_width) (C := RMd) (T := TMd) (N := 31) hx hb hB hiMd hown hK hP 0 rfl rfl 1 (by decide) hL78 (fun _ h9 => h9) rfl dMd_dither_183 ?_
    refine lv_aload_n hx hb dMd_dither_186 rfl (lv_at hl 0 rfl) ?_
    refine va_get (D := (dC, dI)) (ci := 8) (v := .int f_height) (C := RMd) (T := TMd) (N := 31) hx hb hB hiMd hown hK hP 0 rfl rfl 2 (by decide) hL82 (fun _ h9 => h9) rfl dMd_dither_187 ?_
    refine lv_imul hx hb dMd_dither_190 ?_
    refine lv_icmp_ge (tgt := 228) hx hb dMd_dither_191 (by decide) (fun c_25 => ?_) (fun c_25 => ?_)
    · have hv := hv.1 c_25
      refine lv_iload_n hx hb dMd_dither_228 rfl (lv_at hl 1 rfl) ?_
      exact W.iret (v := v2) hx hb hr (fun t ht hW => ⟨⟨_, (f_thrown, f_has, f_before, f_carried), rfl, hv, by rw [ht]; exact hP, hD⟩, hS.F ht⟩) hS.2.2 dMd_dither_229
    · have hv := hv.2 c_25
      refine lv_iload_n hx hb dMd_dither_194 rfl (lv_at hl 1 rfl) ?_
      refine lv_aload_n hx hb dMd_dither_195 rfl (lv_at hl 0 rfl) ?_
      refine va_get (D := (dC, dI)) (ci := 8) (v := .ref q_has) (C := RMd) (T := TMd) (N := 31) hx hb hB hiMd hown hK hP 0 rfl rfl 23 (by decide) hL57 (fun _ h9 => h9) rfl dMd_dither_196 ?_
      refine lv_iload_n hx hb dMd_dither_199 rfl (lv_at hl 2 rfl) ?_
      obtain ⟨h_26, hv⟩ := hv
      refine va_iald hx hb hK hP 3 2 rfl rfl h_26 dMd_dither_200 ?_
      refine lv_aload_n hx hb dMd_dither_201 rfl (lv_at hl 0 rfl) ?_
      refine lv_aload_n hx hb dMd_dither_202 rfl (lv_at hl 0 rfl) ?_
      refine va_get (D := (dC, dI)) (ci := 8) (v := .ref q_samples) (C := RMd) (T := TMd) (N := 31) hx hb hB hiMd hown hK hP 0 rfl rfl 3 (by decide) hL7 (fun _ h9 => h9) rfl dMd_dither_203 ?_
      refine lv_iconst (v := 4) hx hb dMd_dither_206 (by decide) ?_
      refine lv_iload_n hx hb dMd_dither_207 rfl (lv_at hl 2 rfl) ?_
      refine lv_imul hx hb dMd_dither_208 ?_
      refine gx_ri (va_runV (As := [.ref q_samples, .int (4 * v3)]) (rest := [.int (f_has v3.toNatClampNeg), .int v2]) ⟨hx, hb, hml, hown, hB⟩ (metMd_nearestTo l dC dI q_this q_palette q_samples q_samples r_isGiven r_gives r_colours r_many r_group r_row r_channelOf r_spreads r_boxMany r_there r_groupMany r_means r_sums q_has r_takers r_takenSums r_order q_before r_roundSums q_carried c_palette c_samples n_palette n_samples H.size f_thrown f_width f_height f_different f_groups f_rowSize f_ready f_size f_rounds f_palette f_samples (4 * v3) hv) (cwV 2 hB (gx_gV bw759 bw760 bw38 bw53 bw761) rfl rfl rfl (by decide +kernel) ⟨(Nat.le_of_ble_eq_true rfl), (Nat.le_of_ble_eq_true rfl)⟩) (gx_rpreV (ci := 8) (hP.sub (ws' := (wdMd_nearestTo q_this q_palette q_samples q_samples r_isGiven r_gives r_colours r_many r_group r_row r_channelOf r_spreads r_boxMany r_there r_groupMany r_means r_sums q_has r_takers r_takenSums r_order q_before r_roundSums q_carried c_palette c_samples n_palette n_samples f_thrown f_width f_height f_different f_groups f_rowSize f_ready f_size f_rounds f_palette f_samples)) [0, 2, 1] rfl) (hK.sub (tys' := [(c_palette, .int), (c_samples, .int)]) [1, 0] rfl) hZ hS hA rfl rfl) rfl rfl hl.1 rfl (lv_room (Nat.le_of_ble_eq_true rfl)) dMd_dither_209 ⟨(Nat.le_of_ble_eq_true rfl), (Nat.le_of_ble_eq_true rfl)⟩) hP hS hA (fun r_27 H locs hv hP hS => ?_)
      refine lv_icmp_eq (tgt := 219) hx hb dMd_dither_212 (by decide) (fun c_29 => ?_) (fun c_29 => ?_)
      · have hv := hv.1 c_29
        refine lv_iconst (v := 0) hx hb dMd_dither_219 (by decide) ?_
        exact j220 v3 0 v2 f_thrown f_has f_before f_carried hv _ _ _ hP hD hS (lv_sub hl [0, 2] rfl)
      · have hv := hv.2 c_29
        refine lv_iconst (v := 1) hx hb dMd_dither_215 (by decide) ?_
        refine lv_goto (tgt := 220) hx hb dMd_dither_216 (by decide) ?_
        exact j220 v3 1 v2 f_thrown f_has f_before f_carried hv _ _ _ hP hD hS (lv_sub hl [0, 2] rfl))
  rw [eG]
  refine lv_aload_n hx hb dMd_dither_0 rfl (lv_at hl 0 rfl) ?_
  refine lv_iload_n hx hb dMd_dither_1 rfl (lv_at hl 1 rfl) ?_
  refine lv_if_lt (tgt := 14) hx hb dMd_dither_2 (by decide) (fun c_30 => ?_) (fun c_30 => ?_)
  · have hv := hv.1 c_30
    exact j14  hv _ _ _ hP hD hS (lv_sub hl [0, 1] rfl)
  · have hv := hv.2 c_30
    refine lv_iload_n hx hb dMd_dither_5 rfl (lv_at hl 1 rfl) ?_
    refine lv_iconst (v := 2) hx hb dMd_dither_6 (by decide) ?_
    refine lv_icmp_gt (tgt := 14) hx hb dMd_dither_7 (by decide) (fun c_31 => ?_) (fun c_31 => ?_)
    · have hv := hv.1 c_31
      exact j14  hv _ _ _ hP hD hS (lv_sub hl [0, 1] rfl)
    · have hv := hv.2 c_31
      refine lv_iconst (v := 1) hx hb dMd_dither_10 (by decide) ?_
      refine lv_goto (tgt := 15) hx hb dMd_dither_11 (by decide) ?_
      exact j15 1 hv _ _ _ hP hD hS (lv_sub hl [0, 1] rfl)
abbrev wdMd_count (q_this q_has r_samples r_isGiven r_gives r_colours r_many r_group r_row r_channelOf r_spreads r_boxMany r_there r_groupMany r_means r_sums r_palette r_takers r_takenSums r_order r_before r_roundSums r_carried : Nat) (c_has : ClassId) (n_has : Nat) (f_thrown : Int32) (f_width : Int32) (f_height : Int32) (f_different : Int32) (f_groups : Int32) (f_rowSize : Int32) (f_ready : Int32) (f_size : Int32) (f_rounds : Int32) (f_has : Nat → Int32) : va_W := [(q_this, .inr (8, [.int f_thrown, .int f_width, .int f_height, .ref r_samples, .ref r_isGiven, .ref r_gives, .int f_different, .ref r_colours, .ref r_many, .ref r_group, .int f_groups, .ref r_row, .int f_rowSize, .ref r_channelOf, .ref r_spreads, .ref r_boxMany, .ref r_there, .ref r_groupMany, .ref r_means, .ref r_sums, .int f_ready, .int f_size, .ref r_palette, .ref q_has, .ref r_takers, .ref r_takenSums, .ref r_order, .ref r_before, .int f_rounds, .ref r_roundSums, .ref r_carried])), (q_has, .inl (c_has, n_has, .inl f_has))]
set_option maxHeartbeats 4000000 in
set_option maxRecDepth 100000 in
theorem metMd_count (l : Launch) (dC : Nat → ClassId) (dI : Nat → Nat → Nat) (q_this q_has r_samples r_isGiven r_gives r_colours r_many r_group r_row r_channelOf r_spreads r_boxMany r_there r_groupMany r_means r_sums r_palette r_takers r_takenSums r_order r_before r_roundSums r_carried : Nat) (c_has : ClassId) (n_has : Nat) (sz : Nat) (f_thrown : Int32) (f_width : Int32) (f_height : Int32) (f_different : Int32) (f_groups : Int32) (f_rowSize : Int32) (f_ready : Int32) (f_size : Int32) (f_rounds : Int32) (f_has : Nat → Int32) (x1 : Int32) {post : Int32 → Int32 → Prop} (hw : wpMd_count n_has f_thrown f_width f_height f_different f_groups f_rowSize f_ready f_size f_rounds f_has x1 post) : Met l yMd_count (.code yMd_count bMd_count 4 (some .int) :: BIG) ({ frames := 1, cells := 0, slots := 0, locals := 21 }) (va_Pc [.ref q_this, .int x1] (gx_pre (dC, dI) vwCl (wdMd_count q_this q_has r_samples r_isGiven r_gives r_colours r_many r_group r_row r_channelOf r_spreads r_boxMany r_there r_groupMany r_means r_sums r_palette r_takers r_takenSums r_order r_before r_roundSums r_carried c_has n_has f_thrown f_width f_height f_different f_groups f_rowSize f_ready f_size f_rounds f_has) [(c_has, .int)] sz)) (va_Qi (fun r (u : Int32) => post r u) (gx_B (dC, dI) vwCl (va_A (wdMd_count q_this q_has r_samples r_isGiven r_gives r_colours r_many r_group r_row r_channelOf r_spreads r_boxMany r_there r_groupMany r_means r_sums r_palette r_takers r_takenSums r_order r_before r_roundSums r_carried c_has n_has f_thrown f_width f_height f_different f_groups f_rowSize f_ready f_size f_rounds f_has) sz) (fun (u : Int32) => (wdMd_count q_this q_has r_samples r_isGiven r_gives r_colours r_many r_group r_row r_channelOf r_spreads r_boxMany r_there r_groupMany r_means r_sums r_palette r_takers r_takenSums r_order r_before r_roundSums r_carried c_has n_has u f_width f_height f_different f_groups f_rowSize f_ready f_size f_rounds f_has))) (va_A (wdMd_count q_this q_has r_samples r_isGiven r_gives r_colours r_many r_group r_row r_channelOf r_spreads r_boxMany r_there r_groupMany r_means r_sums r_palette r_takers r_takenSums r_order r_before r_roundSums r_carried c_has n_has f_thrown f_width f_height f_different f_groups f_rowSize f_ready f_size f_rounds f_has) sz)) 0 0 (va_A (wdMd_count q_this q_has r_samples r_isGiven r_gives r_colours r_many r_group r_row r_channelOf r_spreads r_boxMany r_there r_groupMany r_means r_sums r_palette r_takers r_takenSums r_order r_before r_roundSums r_carried c_has n_has f_thrown f_width f_height f_different f_groups f_rowSize f_ready f_size f_rounds f_has) sz) := by
  refine Met.ofW (cc := bMd_count) (maxL := 4) (ret := (some .int)) (by decide) rfl ?_
  intro p e s m args below meth c s₁ B hml hv
  obtain ⟨rfl, hsz, hP, hK, hD0, hZ⟩ := hv
  have hx := B.exec
  have hb := B.bytes
  have hr := B.returns
  have hts := atoms_spec (ws := (.code yMd_count bMd_count 4 (some .int) :: BIG)) B.pre
  have hB : ∀ w ∈ BIG, w.before _ s = true := fun w h => hts w (List.mem_cons_of_mem _ h)
  have hown : s.vm.findClass RMd = some m.cls := findClass_of_methodNamed B.named
  have hlocks := B.notSynchronized
  subst hsz
  have hD := hD0.self (sz := s.heap.size)
  generalize hAe : va_A (wdMd_count q_this q_has r_samples r_isGiven r_gives r_colours r_many r_group r_row r_channelOf r_spreads r_boxMany r_there r_groupMany r_means r_sums r_palette r_takers r_takenSums r_order r_before r_roundSums r_carried c_has n_has f_thrown f_width f_height f_different f_groups f_rowSize f_ready f_size f_rounds f_has) s.heap.size = A at hD hZ ⊢
  have hA : ∀ q : Nat, s.heap.size ≤ q → A q := fun q h => by rw [← hAe]; exact Or.inr h
  have hS : va_S A s.heap s.heap [] := va_S.rf
  have hl := lv_entry ([.ref q_this, .int x1]) (n := 4) (Nat.le_of_ble_eq_true rfl)
  rw [lg_entry_eq]
  generalize (lg_sl ([.ref q_this, .int x1]) ++ List.replicate (4 - (lg_sl ([.ref q_this, .int x1])).length) Slot.unset).toArray = ls at hl ⊢
  have hl : lv_has ls 4 [(0, .ref q_this), (1, .int x1)] := hl
  have hL57 := (hB _ bw638)
  have hL78 := (hB _ bw616)
  have hL82 := (hB _ bw617)
  have hL158 := (hB _ bw636)
  refine gx_abs (fun G eG => ?_)
  obtain ⟨K30, eK30⟩ : ∃ K : Int32 → Int32 → Int32 → Prop, K = fun v2 v3 f_thrown => ∀ (H : Heap) (locs : List Loc) (ls : Array Slot), va_P (dC, dI) vwCl (wdMd_count q_this q_has r_samples r_isGiven r_gives r_colours r_many r_group r_row r_channelOf r_spreads r_boxMany r_there r_groupMany r_means r_sums r_palette r_takers r_takenSums r_order r_before r_roundSums r_carried c_has n_has f_thrown f_width f_height f_different f_groups f_rowSize f_ready f_size f_rounds f_has) H → va_D A (wdMd_count q_this q_has r_samples r_isGiven r_gives r_colours r_many r_group r_row r_channelOf r_spreads r_boxMany r_there r_groupMany r_means r_sums r_palette r_takers r_takenSums r_order r_before r_roundSums r_carried c_has n_has f_thrown f_width f_height f_different f_groups f_rowSize f_ready f_size f_rounds f_has) → va_S A s.heap H locs → lv_has ls 4 [(0, .ref q_this), (1, .int x1), (2, .int v2), (3, .int v3)] → G H locs 0 0 (F0 m 30 ls []) := ⟨_, rfl⟩
  have j59 : ∀ (v3 : Int32) (s0 : Int32) (s1 : Int32) (f_thrown : Int32), vcMd_count_59 n_has f_width f_height f_different f_groups f_rowSize f_ready f_size f_rounds f_has x1 K30 post v3 s0 s1 f_thrown → ∀ (H : Heap) (locs : List Loc) (ls : Array Slot), va_P (dC, dI) vwCl (wdMd_count q_this q_has r_samples r_isGiven r_gives r_colours r_many r_group r_row r_channelOf r_spreads r_boxMany r_there r_groupMany r_means r_sums r_palette r_takers r_takenSums r_order r_before r_roundSums r_carried c_has n_has f_thrown f_width f_height f_different f_groups f_rowSize f_ready f_size f_rounds f_has) H → va_D A (wdMd_count q_this q_has r_samples r_isGiven r_gives r_colours r_many r_group r_row r_channelOf r_spreads r_boxMany r_there r_groupMany r_means r_sums r_palette r_takers r_takenSums r_order r_before r_roundSums r_carried c_has n_has f_thrown f_width f_height f_different f_groups f_rowSize f_ready f_size f_rounds f_has) → va_S A s.heap H locs → lv_has ls 4 [(0, .ref q_this), (1, .int x1), (3, .int v3)] → G H locs 0 0 (F0 m 59 ls [.int s0, .int s1]) := by
    intro v3 s0 s1 f_thrown hv H locs ls hP hD hS hl
    rw [eG]
    unfold vcMd_count_59 at hv
    refine lv_iadd hx hb dMd_count_59 ?_
    refine lv_topi (fun v2_1 ev2_1 => ?_)
    have hv := hv v2_1 ev2_1
    refine lv_istore_n (lv' := [(2, .int v2_1), (0, .ref q_this), (1, .int x1), (3, .int v3)]) hx hb dMd_count_60 rfl hl (by decide) rfl (fun ls hl => ?_)
    refine lv_iinc (v := v3 + 1) (lv' := [(3, .int (v3 + 1)), (2, .int v2_1), (0, .ref q_this), (1, .int x1)]) hx hb dMd_count_61 hl (k := 3) rfl rfl (by decide) rfl (fun ls hl => ?_)
    refine lv_goto (tgt := 30) hx hb dMd_count_64 (by decide) ?_
    rw [eK30, eG] at hv
    exact hv _ _ _ hP hD hS (lv_sub hl [2, 3, 1, 0] rfl)
  rw [eG] at j59
  have j18 : ∀ (s0 : Int32), vcMd_count_18 n_has f_width f_height f_different f_groups f_rowSize f_ready f_size f_rounds f_has x1 K30 post s0 f_thrown → ∀ (H : Heap) (locs : List Loc) (ls : Array Slot), va_P (dC, dI) vwCl (wdMd_count q_this q_has r_samples r_isGiven r_gives r_colours r_many r_group r_row r_channelOf r_spreads r_boxMany r_there r_groupMany r_means r_sums r_palette r_takers r_takenSums r_order r_before r_roundSums r_carried c_has n_has f_thrown f_width f_height f_different f_groups f_rowSize f_ready f_size f_rounds f_has) H → va_D A (wdMd_count q_this q_has r_samples r_isGiven r_gives r_colours r_many r_group r_row r_channelOf r_spreads r_boxMany r_there r_groupMany r_means r_sums r_palette r_takers r_takenSums r_order r_before r_roundSums r_carried c_has n_has f_thrown f_width f_height f_different f_groups f_rowSize f_ready f_size f_rounds f_has) → va_S A s.heap H locs → lv_has ls 4 [(0, .ref q_this), (1, .int x1)] → G H locs 0 0 (F0 m 18 ls [.int s0, .ref q_this]) := by
    intro s0 hv H locs ls hP hD hS hl
    rw [eG]
    unfold vcMd_count_18 at hv
    have hFc := va_free (wc := (wdMd_tells q_this r_samples r_isGiven r_gives r_colours r_many r_group r_row r_channelOf r_spreads r_boxMany r_there r_groupMany r_means r_sums r_palette q_has r_takers r_takenSums r_order r_before r_roundSums r_carried f_thrown f_width f_height f_different f_groups f_rowSize f_ready f_size f_rounds)) hD hS hA [0] rfl
    refine gx_i (wr := [(q_has, .inl (c_has, n_has, .inl f_has))]) (va_runV (As := [.int s0]) (rest := []) ⟨hx, hb, hml, hown, hB⟩ (metMd_tells l dC dI q_this r_samples r_isGiven r_gives r_colours r_many r_group r_row r_channelOf r_spreads r_boxMany r_there r_groupMany r_means r_sums r_palette q_has r_takers r_takenSums r_order r_before r_roundSums r_carried H.size f_thrown f_width f_height f_different f_groups f_rowSize f_ready f_size f_rounds s0 hv) (cwV 1 hB (gx_gV bw772 bw773 bw41 bw53 bw774) rfl rfl rfl (by decide +kernel) ⟨(Nat.le_of_ble_eq_true rfl), (Nat.le_of_ble_eq_true rfl)⟩) (gx_preV (ci := 8) (hP.sub (ws' := (wdMd_tells q_this r_samples r_isGiven r_gives r_colours r_many r_group r_row r_channelOf r_spreads r_boxMany r_there r_groupMany r_means r_sums r_palette q_has r_takers r_takenSums r_order r_before r_roundSums r_carried f_thrown f_width f_height f_different f_groups f_rowSize f_ready f_size f_rounds)) [0] rfl) (hK.sub (tys' := []) [] rfl) (hD.sub (ws' := (wdMd_tells q_this r_samples r_isGiven r_gives r_colours r_many r_group r_row r_channelOf r_spreads r_boxMany r_there r_groupMany r_means r_sums r_palette q_has r_takers r_takenSums r_order r_before r_roundSums r_carried f_thrown f_width f_height f_different f_groups f_rowSize f_ready f_size f_rounds)) [0] (by decide) rfl) hZ hS hFc rfl rfl) rfl rfl hl.1 rfl (lv_room (Nat.le_of_ble_eq_true rfl)) dMd_count_18 ⟨(Nat.le_of_ble_eq_true rfl), (Nat.le_of_ble_eq_true rfl)⟩) hP hD hS hFc [0] [1] rfl rfl (by decide) (by decide) (fun r_3 u_4 H locs hv hP hD hS => ?_)
    obtain ⟨f_thrown_2, rfl⟩ : ∃ z, z = u_4 := ⟨_, rfl⟩
    have hP : va_P (dC, dI) vwCl (wdMd_count q_this q_has r_samples r_isGiven r_gives r_colours r_many r_group r_row r_channelOf r_spreads r_boxMany r_there r_groupMany r_means r_sums r_palette r_takers r_takenSums r_order r_before r_roundSums r_carried c_has n_has f_thrown_2 f_width f_height f_different f_groups f_rowSize f_ready f_size f_rounds f_has) H := hP.sub [1, 0] rfl
    have hD : va_D A (wdMd_count q_this q_has r_samples r_isGiven r_gives r_colours r_many r_group r_row r_channelOf r_spreads r_boxMany r_there r_groupMany r_means r_sums r_palette r_takers r_takenSums r_order r_before r_roundSums r_carried c_has n_has f_thrown_2 f_width f_height f_different f_groups f_rowSize f_ready f_size f_rounds f_has) := hD.sub [1, 0] (by decide) rfl
    refine lv_if_ne (tgt := 26) hx hb dMd_count_21 (by decide) (fun c_5 => ?_) (fun c_5 => ?_)
    · have hv := hv.1 c_5
      refine lv_iconst (v := 0) hx hb dMd_count_26 (by decide) ?_
      refine lv_istore_n (lv' := [(2, .int 0), (0, .ref q_this), (1, .int x1)]) hx hb dMd_count_27 rfl hl (by decide) rfl (fun ls hl => ?_)
      refine lv_iconst (v := 0) hx hb dMd_count_28 (by decide) ?_
      refine lv_istore_n (lv' := [(3, .int 0), (2, .int 0), (0, .ref q_this), (1, .int x1)]) hx hb dMd_count_29 rfl hl (by decide) rfl (fun ls hl => ?_)
      rw [eK30, eG] at hv
      exact hv _ _ _ hP hD hS (lv_sub hl [2, 3, 1, 0] rfl)
    · have hv := hv.2 c_5
      refine lv_iconst (v := 0) hx hb dMd_count_24 (by decide) ?_
      exact W.iret (v := 0) hx hb hr (fun t ht hW => ⟨⟨_, f_thrown_2, rfl, hv, by rw [ht]; exact hP, hD⟩, hS.F ht⟩) hS.2.2 dMd_count_25
  rw [eG] at j18
  have j17 : vcMd_count_17 n_has f_width f_height f_different f_groups f_rowSize f_ready f_size f_rounds f_has x1 K30 post f_thrown → ∀ (H : Heap) (locs : List Loc) (ls : Array Slot), va_P (dC, dI) vwCl (wdMd_count q_this q_has r_samples r_isGiven r_gives r_colours r_many r_group r_row r_channelOf r_spreads r_boxMany r_there r_groupMany r_means r_sums r_palette r_takers r_takenSums r_order r_before r_roundSums r_carried c_has n_has f_thrown f_width f_height f_different f_groups f_rowSize f_ready f_size f_rounds f_has) H → va_D A (wdMd_count q_this q_has r_samples r_isGiven r_gives r_colours r_many r_group r_row r_channelOf r_spreads r_boxMany r_there r_groupMany r_means r_sums r_palette r_takers r_takenSums r_order r_before r_roundSums r_carried c_has n_has f_thrown f_width f_height f_different f_groups f_rowSize f_ready f_size f_rounds f_has) → va_S A s.heap H locs → lv_has ls 4 [(0, .ref q_this), (1, .int x1)] → G H locs 0 0 (F0 m 17 ls [.ref q_this]) := by
    intro  hv H locs ls hP hD hS hl
    rw [eG]
    unfold vcMd_count_17 at hv
    refine lv_iconst (v := 0) hx hb dMd_count_17 (by decide) ?_
    exact j18 0 hv _ _ _ hP hD hS (lv_sub hl [0, 1] rfl)
  rw [eG] at j17
  unfold wpMd_count at hw
  have hv := hw K30
  have hv := hv (by
    intro v2 v3 f_thrown hv
    rw [eK30]
    intro H locs ls hP hD hS hl
    rw [eG]
    unfold vcMd_count_30 at hv
    refine lv_iload_n hx hb dMd_count_30 rfl (lv_at hl 3 rfl) ?_
    refine lv_aload_n hx hb dMd_count_31 rfl (lv_at hl 0 rfl) ?_
    refine va_get (D := (dC, dI)) (ci := 8) (v := .int f_width) (C := RMd) (T := TMd) (N := 31) hx hb hB hiMd hown hK hP 0 rfl rfl 1 (by decide) hL78 (fun _ h9 => h9) rfl dMd_count_32 ?_
    refine lv_aload_n hx hb dMd_count_35 rfl (lv_at hl 0 rfl) ?_
    refine va_get (D := (dC, dI)) (ci := 8) (v := .int f_height) (C := RMd) (T := TMd) (N := 31) hx hb hB hiMd hown hK hP 0 rfl rfl 2 (by decide) hL82 (fun _ h9 => h9) rfl dMd_count_36 ?_
    refine lv_imul hx hb dMd_count_39 ?_
    refine lv_icmp_ge (tgt := 67) hx hb dMd_count_40 (by decide) (fun c_6 => ?_) (fun c_6 => ?_)
    · have hv := hv.1 c_6
      refine lv_iload_n hx hb dMd_count_67 rfl (lv_at hl 2 rfl) ?_
      exact W.iret (v := v2) hx hb hr (fun t ht hW => ⟨⟨_, f_thrown, rfl, hv, by rw [ht]; exact hP, hD⟩, hS.F ht⟩) hS.2.2 dMd_count_68
    · have hv := hv.2 c_6
      refine lv_iload_n hx hb dMd_count_43 rfl (lv_at hl 2 rfl) ?_
      refine lv_aload_n hx hb dMd_count_44 rfl (lv_at hl 0 rfl) ?_
      refine va_get (D := (dC, dI)) (ci := 8) (v := .ref q_has) (C := RMd) (T := TMd) (N := 31) hx hb hB hiMd hown hK hP 0 rfl rfl 23 (by decide) hL57 (fun _ h9 => h9) rfl dMd_count_45 ?_
      refine lv_iload_n hx hb dMd_count_48 rfl (lv_at hl 3 rfl) ?_
      obtain ⟨h_7, hv⟩ := hv
      refine va_iald hx hb hK hP 1 0 rfl rfl h_7 dMd_count_49 ?_
      refine lv_iload_n hx hb dMd_count_50 rfl (lv_at hl 1 rfl) ?_
      refine lv_icmp_ne (tgt := 58) hx hb dMd_count_51 (by decide) (fun c_8 => ?_) (fun c_8 => ?_)
      · have hv := hv.1 c_8
        refine lv_iconst (v := 0) hx hb dMd_count_58 (by decide) ?_
        exact j59 v3 0 v2 f_thrown hv _ _ _ hP hD hS (lv_sub hl [0, 1, 3] rfl)
      · have hv := hv.2 c_8
        refine lv_iconst (v := 1) hx hb dMd_count_54 (by decide) ?_
        refine lv_goto (tgt := 59) hx hb dMd_count_55 (by decide) ?_
        exact j59 v3 1 v2 f_thrown hv _ _ _ hP hD hS (lv_sub hl [0, 1, 3] rfl))
  rw [eG]
  refine lv_aload_n hx hb dMd_count_0 rfl (lv_at hl 0 rfl) ?_
  refine lv_iload_n hx hb dMd_count_1 rfl (lv_at hl 1 rfl) ?_
  refine lv_if_lt (tgt := 17) hx hb dMd_count_2 (by decide) (fun c_9 => ?_) (fun c_9 => ?_)
  · have hv := hv.1 c_9
    exact j17  hv _ _ _ hP hD hS (lv_sub hl [0, 1] rfl)
  · have hv := hv.2 c_9
    refine lv_iload_n hx hb dMd_count_5 rfl (lv_at hl 1 rfl) ?_
    refine lv_aload_n hx hb dMd_count_6 rfl (lv_at hl 0 rfl) ?_
    refine va_get (D := (dC, dI)) (ci := 8) (v := .int f_size) (C := RMd) (T := TMd) (N := 31) hx hb hB hiMd hown hK hP 0 rfl rfl 21 (by decide) hL158 (fun _ h9 => h9) rfl dMd_count_7 ?_
    refine lv_icmp_ge (tgt := 17) hx hb dMd_count_10 (by decide) (fun c_10 => ?_) (fun c_10 => ?_)
    · have hv := hv.1 c_10
      exact j17  hv _ _ _ hP hD hS (lv_sub hl [0, 1] rfl)
    · have hv := hv.2 c_10
      refine lv_iconst (v := 1) hx hb dMd_count_13 (by decide) ?_
      refine lv_goto (tgt := 18) hx hb dMd_count_14 (by decide) ?_
      exact j18 1 hv _ _ _ hP hD hS (lv_sub hl [0, 1] rfl)
abbrev wdMd_exact (q_this q_samples q_palette q_has r_isGiven r_gives r_colours r_many r_group r_row r_channelOf r_spreads r_boxMany r_there r_groupMany r_means r_sums r_takers r_takenSums r_order r_before r_roundSums r_carried : Nat) (c_samples c_palette c_has : ClassId) (n_samples n_palette n_has : Nat) (f_thrown : Int32) (f_width : Int32) (f_height : Int32) (f_different : Int32) (f_groups : Int32) (f_rowSize : Int32) (f_ready : Int32) (f_size : Int32) (f_rounds : Int32) (f_samples : Nat → Int32) (f_palette : Nat → Int32) (f_has : Nat → Int32) : va_W := [(q_this, .inr (8, [.int f_thrown, .int f_width, .int f_height, .ref q_samples, .ref r_isGiven, .ref r_gives, .int f_different, .ref r_colours, .ref r_many, .ref r_group, .int f_groups, .ref r_row, .int f_rowSize, .ref r_channelOf, .ref r_spreads, .ref r_boxMany, .ref r_there, .ref r_groupMany, .ref r_means, .ref r_sums, .int f_ready, .int f_size, .ref q_palette, .ref q_has, .ref r_takers, .ref r_takenSums, .ref r_order, .ref r_before, .int f_rounds, .ref r_roundSums, .ref r_carried])), (q_samples, .inl (c_samples, n_samples, .inl f_samples)), (q_palette, .inl (c_palette, n_palette, .inl f_palette)), (q_has, .inl (c_has, n_has, .inl f_has))]
set_option maxHeartbeats 4000000 in
set_option maxRecDepth 100000 in
theorem metMd_exact (l : Launch) (dC : Nat → ClassId) (dI : Nat → Nat → Nat) (q_this q_samples q_palette q_has r_isGiven r_gives r_colours r_many r_group r_row r_channelOf r_spreads r_boxMany r_there r_groupMany r_means r_sums r_takers r_takenSums r_order r_before r_roundSums r_carried : Nat) (c_samples c_palette c_has : ClassId) (n_samples n_palette n_has : Nat) (sz : Nat) (f_thrown : Int32) (f_width : Int32) (f_height : Int32) (f_different : Int32) (f_groups : Int32) (f_rowSize : Int32) (f_ready : Int32) (f_size : Int32) (f_rounds : Int32) (f_samples : Nat → Int32) (f_palette : Nat → Int32) (f_has : Nat → Int32) {post : Int32 → Int32 → Prop} (hw : wpMd_exact n_samples n_palette n_has f_thrown f_width f_height f_different f_groups f_rowSize f_ready f_size f_rounds f_samples f_palette f_has post) : Met l yMd_exact (.code yMd_exact bMd_exact 3 (some .boolean) :: BIG) ({ frames := 1, cells := 0, slots := 0, locals := 24 }) (va_Pc [.ref q_this] (gx_pre (dC, dI) vwCl (wdMd_exact q_this q_samples q_palette q_has r_isGiven r_gives r_colours r_many r_group r_row r_channelOf r_spreads r_boxMany r_there r_groupMany r_means r_sums r_takers r_takenSums r_order r_before r_roundSums r_carried c_samples c_palette c_has n_samples n_palette n_has f_thrown f_width f_height f_different f_groups f_rowSize f_ready f_size f_rounds f_samples f_palette f_has) [(c_samples, .int), (c_palette, .int), (c_has, .int)] sz)) (va_Qi (fun r (u : Int32) => post r u) (gx_B (dC, dI) vwCl (va_A (wdMd_exact q_this q_samples q_palette q_has r_isGiven r_gives r_colours r_many r_group r_row r_channelOf r_spreads r_boxMany r_there r_groupMany r_means r_sums r_takers r_takenSums r_order r_before r_roundSums r_carried c_samples c_palette c_has n_samples n_palette n_has f_thrown f_width f_height f_different f_groups f_rowSize f_ready f_size f_rounds f_samples f_palette f_has) sz) (fun (u : Int32) => (wdMd_exact q_this q_samples q_palette q_has r_isGiven r_gives r_colours r_many r_group r_row r_channelOf r_spreads r_boxMany r_there r_groupMany r_means r_sums r_takers r_takenSums r_order r_before r_roundSums r_carried c_samples c_palette c_has n_samples n_palette n_has u f_width f_height f_different f_groups f_rowSize f_ready f_size f_rounds f_samples f_palette f_has))) (va_A (wdMd_exact q_this q_samples q_palette q_has r_isGiven r_gives r_colours r_many r_group r_row r_channelOf r_spreads r_boxMany r_there r_groupMany r_means r_sums r_takers r_takenSums r_order r_before r_roundSums r_carried c_samples c_palette c_has n_samples n_palette n_has f_thrown f_width f_height f_different f_groups f_rowSize f_ready f_size f_rounds f_samples f_palette f_has) sz)) 0 0 (va_A (wdMd_exact q_this q_samples q_palette q_has r_isGiven r_gives r_colours r_many r_group r_row r_channelOf r_spreads r_boxMany r_there r_groupMany r_means r_sums r_takers r_takenSums r_order r_before r_roundSums r_carried c_samples c_palette c_has n_samples n_palette n_has f_thrown f_width f_height f_different f_groups f_rowSize f_ready f_size f_rounds f_samples f_palette f_has) sz) := by
  refine Met.ofW (cc := bMd_exact) (maxL := 3) (ret := (some .boolean)) (by decide) rfl ?_
  intro p e s m args below meth c s₁ B hml hv
  obtain ⟨rfl, hsz, hP, hK, hD0, hZ⟩ := hv
  have hx := B.exec
  have hb := B.bytes
  have hr := B.returns
  have hts := atoms_spec (ws := (.code yMd_exact bMd_exact 3 (some .boolean) :: BIG)) B.pre
  have hB : ∀ w ∈ BIG, w.before _ s = true := fun w h => hts w (List.mem_cons_of_mem _ h)
  have hown : s.vm.findClass RMd = some m.cls := findClass_of_methodNamed B.named
  have hlocks := B.notSynchronized
  subst hsz
  have hD := hD0.self (sz := s.heap.size)
  generalize hAe : va_A (wdMd_exact q_this q_samples q_palette q_has r_isGiven r_gives r_colours r_many r_group r_row r_channelOf r_spreads r_boxMany r_there r_groupMany r_means r_sums r_takers r_takenSums r_order r_before r_roundSums r_carried c_samples c_palette c_has n_samples n_palette n_has f_thrown f_width f_height f_different f_groups f_rowSize f_ready f_size f_rounds f_samples f_palette f_has) s.heap.size = A at hD hZ ⊢
  have hA : ∀ q : Nat, s.heap.size ≤ q → A q := fun q h => by rw [← hAe]; exact Or.inr h
  have hS : va_S A s.heap s.heap [] := va_S.rf
  have hl := lv_entry ([.ref q_this]) (n := 3) (Nat.le_of_ble_eq_true rfl)
  rw [lg_entry_eq]
  generalize (lg_sl ([.ref q_this]) ++ List.replicate (3 - (lg_sl ([.ref q_this])).length) Slot.unset).toArray = ls at hl ⊢
  have hl : lv_has ls 3 [(0, .ref q_this)] := hl
  have hL7 := (hB _ bw618)
  have hL54 := (hB _ bw637)
  have hL57 := (hB _ bw638)
  have hL78 := (hB _ bw616)
  have hL82 := (hB _ bw617)
  refine gx_abs (fun G eG => ?_)
  obtain ⟨K8, eK8⟩ : ∃ K : Int32 → Int32 → Int32 → Prop, K = fun v1 v2 f_thrown => ∀ (H : Heap) (locs : List Loc) (ls : Array Slot), va_P (dC, dI) vwCl (wdMd_exact q_this q_samples q_palette q_has r_isGiven r_gives r_colours r_many r_group r_row r_channelOf r_spreads r_boxMany r_there r_groupMany r_means r_sums r_takers r_takenSums r_order r_before r_roundSums r_carried c_samples c_palette c_has n_samples n_palette n_has f_thrown f_width f_height f_different f_groups f_rowSize f_ready f_size f_rounds f_samples f_palette f_has) H → va_D A (wdMd_exact q_this q_samples q_palette q_has r_isGiven r_gives r_colours r_many r_group r_row r_channelOf r_spreads r_boxMany r_there r_groupMany r_means r_sums r_takers r_takenSums r_order r_before r_roundSums r_carried c_samples c_palette c_has n_samples n_palette n_has f_thrown f_width f_height f_different f_groups f_rowSize f_ready f_size f_rounds f_samples f_palette f_has) → va_S A s.heap H locs → lv_has ls 3 [(0, .ref q_this), (1, .int v1), (2, .int v2)] → G H locs 0 0 (F0 m 8 ls []) := ⟨_, rfl⟩
  have j62 : ∀ (v1 : Int32) (f_thrown : Int32), vcMd_exact_62 n_samples n_palette n_has f_width f_height f_different f_groups f_rowSize f_ready f_size f_rounds f_samples f_palette f_has K8 post v1 f_thrown → ∀ (H : Heap) (locs : List Loc) (ls : Array Slot), va_P (dC, dI) vwCl (wdMd_exact q_this q_samples q_palette q_has r_isGiven r_gives r_colours r_many r_group r_row r_channelOf r_spreads r_boxMany r_there r_groupMany r_means r_sums r_takers r_takenSums r_order r_before r_roundSums r_carried c_samples c_palette c_has n_samples n_palette n_has f_thrown f_width f_height f_different f_groups f_rowSize f_ready f_size f_rounds f_samples f_palette f_has) H → va_D A (wdMd_exact q_this q_samples q_palette q_has r_isGiven r_gives r_colours r_many r_group r_row r_channelOf r_spreads r_boxMany r_there r_groupMany r_means r_sums r_takers r_takenSums r_order r_before r_roundSums r_carried c_samples c_palette c_has n_samples n_palette n_has f_thrown f_width f_height f_different f_groups f_rowSize f_ready f_size f_rounds f_samples f_palette f_has) → va_S A s.heap H locs → lv_has ls 3 [(1, .int v1)] → G H locs 0 0 (F0 m 62 ls []) := by
    intro v1 f_thrown hv H locs ls hP hD hS hl
    rw [eG]
    unfold vcMd_exact_62 at hv
    refine lv_iload_n hx hb dMd_exact_62 rfl (lv_at hl 0 rfl) ?_
    obtain ⟨h_1, hv⟩ := hv
    exact W.zret (v := v1) hx hb hr h_1 (fun t ht hW => ⟨⟨_, f_thrown, rfl, hv, by rw [ht]; exact hP, hD⟩, hS.F ht⟩) hS.2.2 dMd_exact_63
  rw [eG] at j62
  have j55 : ∀ (v2 : Int32) (s0 : Int32) (f_thrown : Int32), vcMd_exact_55 n_samples n_palette n_has f_width f_height f_different f_groups f_rowSize f_ready f_size f_rounds f_samples f_palette f_has K8 post v2 s0 f_thrown → ∀ (H : Heap) (locs : List Loc) (ls : Array Slot), va_P (dC, dI) vwCl (wdMd_exact q_this q_samples q_palette q_has r_isGiven r_gives r_colours r_many r_group r_row r_channelOf r_spreads r_boxMany r_there r_groupMany r_means r_sums r_takers r_takenSums r_order r_before r_roundSums r_carried c_samples c_palette c_has n_samples n_palette n_has f_thrown f_width f_height f_different f_groups f_rowSize f_ready f_size f_rounds f_samples f_palette f_has) H → va_D A (wdMd_exact q_this q_samples q_palette q_has r_isGiven r_gives r_colours r_many r_group r_row r_channelOf r_spreads r_boxMany r_there r_groupMany r_means r_sums r_takers r_takenSums r_order r_before r_roundSums r_carried c_samples c_palette c_has n_samples n_palette n_has f_thrown f_width f_height f_different f_groups f_rowSize f_ready f_size f_rounds f_samples f_palette f_has) → va_S A s.heap H locs → lv_has ls 3 [(0, .ref q_this), (2, .int v2)] → G H locs 0 0 (F0 m 55 ls [.int s0]) := by
    intro v2 s0 f_thrown hv H locs ls hP hD hS hl
    rw [eG]
    unfold vcMd_exact_55 at hv
    refine lv_istore_n (lv' := [(1, .int s0), (0, .ref q_this), (2, .int v2)]) hx hb dMd_exact_55 rfl hl (by decide) rfl (fun ls hl => ?_)
    refine lv_iinc (v := v2 + 1) (lv' := [(2, .int (v2 + 1)), (1, .int s0), (0, .ref q_this)]) hx hb dMd_exact_56 hl (k := 2) rfl rfl (by decide) rfl (fun ls hl => ?_)
    refine lv_goto (tgt := 8) hx hb dMd_exact_59 (by decide) ?_
    rw [eK8, eG] at hv
    exact hv _ _ _ hP hD hS (lv_sub hl [2, 1, 0] rfl)
  rw [eG] at j55
  unfold wpMd_exact at hw
  have hv := hw K8
  have hv := hv (by
    intro v1 v2 f_thrown hv
    rw [eK8]
    intro H locs ls hP hD hS hl
    rw [eG]
    unfold vcMd_exact_8 at hv
    refine lv_iload_n hx hb dMd_exact_8 rfl (lv_at hl 2 rfl) ?_
    refine lv_aload_n hx hb dMd_exact_9 rfl (lv_at hl 0 rfl) ?_
    refine va_get (D := (dC, dI)) (ci := 8) (v := .int f_width) (C := RMd) (T := TMd) (N := 31) hx hb hB hiMd hown hK hP 0 rfl rfl 1 (by decide) hL78 (fun _ h9 => h9) rfl dMd_exact_10 ?_
    refine lv_aload_n hx hb dMd_exact_13 rfl (lv_at hl 0 rfl) ?_
    refine va_get (D := (dC, dI)) (ci := 8) (v := .int f_height) (C := RMd) (T := TMd) (N := 31) hx hb hB hiMd hown hK hP 0 rfl rfl 2 (by decide) hL82 (fun _ h9 => h9) rfl dMd_exact_14 ?_
    refine lv_imul hx hb dMd_exact_17 ?_
    refine lv_icmp_ge (tgt := 62) hx hb dMd_exact_18 (by decide) (fun c_2 => ?_) (fun c_2 => ?_)
    · have hv := hv.1 c_2
      exact j62 v1 f_thrown hv _ _ _ hP hD hS (lv_sub hl [1] rfl)
    · have hv := hv.2 c_2
      refine lv_iload_n hx hb dMd_exact_21 rfl (lv_at hl 1 rfl) ?_
      refine lv_if_eq (tgt := 62) hx hb dMd_exact_22 (by decide) (fun c_3 => ?_) (fun c_3 => ?_)
      · have hv := hv.1 c_3
        exact j62 v1 f_thrown hv _ _ _ hP hD hS (lv_sub hl [1] rfl)
      · have hv := hv.2 c_3
        refine lv_aload_n hx hb dMd_exact_25 rfl (lv_at hl 0 rfl) ?_
        refine va_get (D := (dC, dI)) (ci := 8) (v := .ref q_palette) (C := RMd) (T := TMd) (N := 31) hx hb hB hiMd hown hK hP 0 rfl rfl 22 (by decide) hL54 (fun _ h9 => h9) rfl dMd_exact_26 ?_
        refine lv_iconst (v := 4) hx hb dMd_exact_29 (by decide) ?_
        refine lv_aload_n hx hb dMd_exact_30 rfl (lv_at hl 0 rfl) ?_
        refine va_get (D := (dC, dI)) (ci := 8) (v := .ref q_has) (C := RMd) (T := TMd) (N := 31) hx hb hB hiMd hown hK hP 0 rfl rfl 23 (by decide) hL57 (fun _ h9 => h9) rfl dMd_exact_31 ?_
        refine lv_iload_n hx hb dMd_exact_34 rfl (lv_at hl 2 rfl) ?_
        obtain ⟨h_4, hv⟩ := hv
        refine va_iald hx hb hK hP 3 2 rfl rfl h_4 dMd_exact_35 ?_
        refine lv_imul hx hb dMd_exact_36 ?_
        refine lv_aload_n hx hb dMd_exact_37 rfl (lv_at hl 0 rfl) ?_
        refine va_get (D := (dC, dI)) (ci := 8) (v := .ref q_samples) (C := RMd) (T := TMd) (N := 31) hx hb hB hiMd hown hK hP 0 rfl rfl 3 (by decide) hL7 (fun _ h9 => h9) rfl dMd_exact_38 ?_
        refine lv_iconst (v := 4) hx hb dMd_exact_41 (by decide) ?_
        refine lv_iload_n hx hb dMd_exact_42 rfl (lv_at hl 2 rfl) ?_
        refine lv_imul hx hb dMd_exact_43 ?_
        refine gx_ri (va_runS (As := [.ref q_palette, .int (4 * (f_has v2.toNatClampNeg)), .ref q_samples, .int (4 * v2)]) (rest := []) ⟨hx, hb, hml, hown, hB⟩ (metMd_compare l dC dI q_palette q_samples c_palette c_samples n_palette n_samples H.size f_palette f_samples (4 * (f_has v2.toNatClampNeg)) (4 * v2) hv) (va_cwS 4 hB (gx_gS bw722 bw723 bw53 bw724) rfl rfl rfl (by decide +kernel) ⟨(Nat.le_of_ble_eq_true rfl), (Nat.le_of_ble_eq_true rfl)⟩) (gx_rpreS (hP.sub (ws' := (wdMd_compare q_palette q_samples c_palette c_samples n_palette n_samples f_palette f_samples)) [2, 1] rfl) (hK.sub (tys' := [(c_palette, .int), (c_samples, .int)]) [1, 0] rfl) hZ hS hA) rfl rfl hl.1 rfl (lv_room (Nat.le_of_ble_eq_true rfl)) dMd_exact_44 ⟨(Nat.le_of_ble_eq_true rfl), (Nat.le_of_ble_eq_true rfl)⟩) hP hS hA (fun r_5 H locs hv hP hS => ?_)
        refine lv_if_ne (tgt := 54) hx hb dMd_exact_47 (by decide) (fun c_7 => ?_) (fun c_7 => ?_)
        · have hv := hv.1 c_7
          refine lv_iconst (v := 0) hx hb dMd_exact_54 (by decide) ?_
          exact j55 v2 0 f_thrown hv _ _ _ hP hD hS (lv_sub hl [0, 2] rfl)
        · have hv := hv.2 c_7
          refine lv_iconst (v := 1) hx hb dMd_exact_50 (by decide) ?_
          refine lv_goto (tgt := 55) hx hb dMd_exact_51 (by decide) ?_
          exact j55 v2 1 f_thrown hv _ _ _ hP hD hS (lv_sub hl [0, 2] rfl))
  rw [eG]
  refine lv_aload_n hx hb dMd_exact_0 rfl (lv_at hl 0 rfl) ?_
  refine lv_iconst (v := 1) hx hb dMd_exact_1 (by decide) ?_
  have hFc := va_free (wc := (wdMd_tells q_this q_samples r_isGiven r_gives r_colours r_many r_group r_row r_channelOf r_spreads r_boxMany r_there r_groupMany r_means r_sums q_palette q_has r_takers r_takenSums r_order r_before r_roundSums r_carried f_thrown f_width f_height f_different f_groups f_rowSize f_ready f_size f_rounds)) hD hS hA [0] rfl
  refine gx_i (wr := [(q_samples, .inl (c_samples, n_samples, .inl f_samples)), (q_palette, .inl (c_palette, n_palette, .inl f_palette)), (q_has, .inl (c_has, n_has, .inl f_has))]) (va_runV (As := [.int 1]) (rest := []) ⟨hx, hb, hml, hown, hB⟩ (metMd_tells l dC dI q_this q_samples r_isGiven r_gives r_colours r_many r_group r_row r_channelOf r_spreads r_boxMany r_there r_groupMany r_means r_sums q_palette q_has r_takers r_takenSums r_order r_before r_roundSums r_carried s.heap.size f_thrown f_width f_height f_different f_groups f_rowSize f_ready f_size f_rounds 1 hv) (cwV 1 hB (gx_gV bw772 bw773 bw41 bw53 bw774) rfl rfl rfl (by decide +kernel) ⟨(Nat.le_of_ble_eq_true rfl), (Nat.le_of_ble_eq_true rfl)⟩) (gx_preV (ci := 8) (hP.sub (ws' := (wdMd_tells q_this q_samples r_isGiven r_gives r_colours r_many r_group r_row r_channelOf r_spreads r_boxMany r_there r_groupMany r_means r_sums q_palette q_has r_takers r_takenSums r_order r_before r_roundSums r_carried f_thrown f_width f_height f_different f_groups f_rowSize f_ready f_size f_rounds)) [0] rfl) (hK.sub (tys' := []) [] rfl) (hD.sub (ws' := (wdMd_tells q_this q_samples r_isGiven r_gives r_colours r_many r_group r_row r_channelOf r_spreads r_boxMany r_there r_groupMany r_means r_sums q_palette q_has r_takers r_takenSums r_order r_before r_roundSums r_carried f_thrown f_width f_height f_different f_groups f_rowSize f_ready f_size f_rounds)) [0] (by decide) rfl) hZ hS hFc rfl rfl) rfl rfl hl.1 rfl (lv_room (Nat.le_of_ble_eq_true rfl)) dMd_exact_2 ⟨(Nat.le_of_ble_eq_true rfl), (Nat.le_of_ble_eq_true rfl)⟩) hP hD hS hFc [0] [1, 2, 3] rfl rfl (by decide) (by decide) (fun r_9 u_10 H locs hv hP hD hS => ?_)
  obtain ⟨f_thrown_8, rfl⟩ : ∃ z, z = u_10 := ⟨_, rfl⟩
  have hP : va_P (dC, dI) vwCl (wdMd_exact q_this q_samples q_palette q_has r_isGiven r_gives r_colours r_many r_group r_row r_channelOf r_spreads r_boxMany r_there r_groupMany r_means r_sums r_takers r_takenSums r_order r_before r_roundSums r_carried c_samples c_palette c_has n_samples n_palette n_has f_thrown_8 f_width f_height f_different f_groups f_rowSize f_ready f_size f_rounds f_samples f_palette f_has) H := hP.sub [3, 0, 1, 2] rfl
  have hD : va_D A (wdMd_exact q_this q_samples q_palette q_has r_isGiven r_gives r_colours r_many r_group r_row r_channelOf r_spreads r_boxMany r_there r_groupMany r_means r_sums r_takers r_takenSums r_order r_before r_roundSums r_carried c_samples c_palette c_has n_samples n_palette n_has f_thrown_8 f_width f_height f_different f_groups f_rowSize f_ready f_size f_rounds f_samples f_palette f_has) := hD.sub [3, 0, 1, 2] (by decide) rfl
  refine lv_istore_n (lv' := [(1, .int r_9), (0, .ref q_this)]) hx hb dMd_exact_5 rfl hl (by decide) rfl (fun ls hl => ?_)
  refine lv_iconst (v := 0) hx hb dMd_exact_6 (by decide) ?_
  refine lv_istore_n (lv' := [(2, .int 0), (1, .int r_9), (0, .ref q_this)]) hx hb dMd_exact_7 rfl hl (by decide) rfl (fun ls hl => ?_)
  rw [eK8, eG] at hv
  exact hv _ _ _ hP hD hS (lv_sub hl [2, 1, 0] rfl)
abbrev wdMd_told (q_this q_samples q_isGiven q_colours q_many r_gives r_group r_row r_channelOf r_spreads r_boxMany r_there r_groupMany r_means r_sums r_palette r_has r_takers r_takenSums r_order r_before r_roundSums r_carried : Nat) (c_samples c_isGiven c_colours c_many : ClassId) (n_samples n_isGiven n_colours n_many : Nat) (f_thrown : Int32) (f_width : Int32) (f_height : Int32) (f_different : Int32) (f_groups : Int32) (f_rowSize : Int32) (f_ready : Int32) (f_size : Int32) (f_rounds : Int32) (f_samples : Nat → Int32) (f_isGiven : Nat → Int32) (f_colours : Nat → Int32) (f_many : Nat → Int32) : va_W := [(q_this, .inr (8, [.int f_thrown, .int f_width, .int f_height, .ref q_samples, .ref q_isGiven, .ref r_gives, .int f_different, .ref q_colours, .ref q_many, .ref r_group, .int f_groups, .ref r_row, .int f_rowSize, .ref r_channelOf, .ref r_spreads, .ref r_boxMany, .ref r_there, .ref r_groupMany, .ref r_means, .ref r_sums, .int f_ready, .int f_size, .ref r_palette, .ref r_has, .ref r_takers, .ref r_takenSums, .ref r_order, .ref r_before, .int f_rounds, .ref r_roundSums, .ref r_carried])), (q_samples, .inl (c_samples, n_samples, .inl f_samples)), (q_isGiven, .inl (c_isGiven, n_isGiven, .inl f_isGiven)), (q_colours, .inl (c_colours, n_colours, .inl f_colours)), (q_many, .inl (c_many, n_many, .inl f_many))]
set_option maxHeartbeats 4000000 in
set_option maxRecDepth 100000 in
theorem metMd_told (l : Launch) (dC : Nat → ClassId) (dI : Nat → Nat → Nat) (q_this q_samples q_isGiven q_colours q_many r_gives r_group r_row r_channelOf r_spreads r_boxMany r_there r_groupMany r_means r_sums r_palette r_has r_takers r_takenSums r_order r_before r_roundSums r_carried : Nat) (c_samples c_isGiven c_colours c_many : ClassId) (n_samples n_isGiven n_colours n_many : Nat) (sz : Nat) (f_thrown : Int32) (f_width : Int32) (f_height : Int32) (f_different : Int32) (f_groups : Int32) (f_rowSize : Int32) (f_ready : Int32) (f_size : Int32) (f_rounds : Int32) (f_samples : Nat → Int32) (f_isGiven : Nat → Int32) (f_colours : Nat → Int32) (f_many : Nat → Int32) (x1 : Int32) {post : Int32 → Int32 → Int32 → (Nat → Int32) → (Nat → Int32) → Prop} (hw : wpMd_told n_samples n_isGiven n_colours n_many f_thrown f_width f_height f_different f_groups f_rowSize f_ready f_size f_rounds f_samples f_isGiven f_colours f_many x1 post) : Met l yMd_told (.code yMd_told bMd_told 2 (some .int) :: BIG) ({ frames := 2, cells := 0, slots := 0, locals := 47 }) (va_Pc [.ref q_this, .int x1] (gx_pre (dC, dI) vwCl (wdMd_told q_this q_samples q_isGiven q_colours q_many r_gives r_group r_row r_channelOf r_spreads r_boxMany r_there r_groupMany r_means r_sums r_palette r_has r_takers r_takenSums r_order r_before r_roundSums r_carried c_samples c_isGiven c_colours c_many n_samples n_isGiven n_colours n_many f_thrown f_width f_height f_different f_groups f_rowSize f_ready f_size f_rounds f_samples f_isGiven f_colours f_many) [(c_samples, .int), (c_isGiven, .boolean), (c_colours, .int), (c_many, .int)] sz)) (va_Qi (fun r (u : Int32 × Int32 × (Nat → Int32) × (Nat → Int32)) => post r u.1 u.2.1 u.2.2.1 u.2.2.2) (gx_B (dC, dI) vwCl (va_A (wdMd_told q_this q_samples q_isGiven q_colours q_many r_gives r_group r_row r_channelOf r_spreads r_boxMany r_there r_groupMany r_means r_sums r_palette r_has r_takers r_takenSums r_order r_before r_roundSums r_carried c_samples c_isGiven c_colours c_many n_samples n_isGiven n_colours n_many f_thrown f_width f_height f_different f_groups f_rowSize f_ready f_size f_rounds f_samples f_isGiven f_colours f_many) sz) (fun (u : Int32 × Int32 × (Nat → Int32) × (Nat → Int32)) => (wdMd_told q_this q_samples q_isGiven q_colours q_many r_gives r_group r_row r_channelOf r_spreads r_boxMany r_there r_groupMany r_means r_sums r_palette r_has r_takers r_takenSums r_order r_before r_roundSums r_carried c_samples c_isGiven c_colours c_many n_samples n_isGiven n_colours n_many u.1 f_width f_height u.2.1 f_groups f_rowSize f_ready f_size f_rounds f_samples f_isGiven u.2.2.1 u.2.2.2))) (va_A (wdMd_told q_this q_samples q_isGiven q_colours q_many r_gives r_group r_row r_channelOf r_spreads r_boxMany r_there r_groupMany r_means r_sums r_palette r_has r_takers r_takenSums r_order r_before r_roundSums r_carried c_samples c_isGiven c_colours c_many n_samples n_isGiven n_colours n_many f_thrown f_width f_height f_different f_groups f_rowSize f_ready f_size f_rounds f_samples f_isGiven f_colours f_many) sz)) 0 0 (va_A (wdMd_told q_this q_samples q_isGiven q_colours q_many r_gives r_group r_row r_channelOf r_spreads r_boxMany r_there r_groupMany r_means r_sums r_palette r_has r_takers r_takenSums r_order r_before r_roundSums r_carried c_samples c_isGiven c_colours c_many n_samples n_isGiven n_colours n_many f_thrown f_width f_height f_different f_groups f_rowSize f_ready f_size f_rounds f_samples f_isGiven f_colours f_many) sz) := by
  refine Met.ofW (cc := bMd_told) (maxL := 2) (ret := (some .int)) (by decide) rfl ?_
  intro p e s m args below meth c s₁ B hml hv
  obtain ⟨rfl, hsz, hP, hK, hD0, hZ⟩ := hv
  have hx := B.exec
  have hb := B.bytes
  have hr := B.returns
  have hts := atoms_spec (ws := (.code yMd_told bMd_told 2 (some .int) :: BIG)) B.pre
  have hB : ∀ w ∈ BIG, w.before _ s = true := fun w h => hts w (List.mem_cons_of_mem _ h)
  have hown : s.vm.findClass RMd = some m.cls := findClass_of_methodNamed B.named
  have hlocks := B.notSynchronized
  subst hsz
  have hD := hD0.self (sz := s.heap.size)
  generalize hAe : va_A (wdMd_told q_this q_samples q_isGiven q_colours q_many r_gives r_group r_row r_channelOf r_spreads r_boxMany r_there r_groupMany r_means r_sums r_palette r_has r_takers r_takenSums r_order r_before r_roundSums r_carried c_samples c_isGiven c_colours c_many n_samples n_isGiven n_colours n_many f_thrown f_width f_height f_different f_groups f_rowSize f_ready f_size f_rounds f_samples f_isGiven f_colours f_many) s.heap.size = A at hD hZ ⊢
  have hA : ∀ q : Nat, s.heap.size ≤ q → A q := fun q h => by rw [← hAe]; exact Or.inr h
  have hS : va_S A s.heap s.heap [] := va_S.rf
  have hl := lv_entry ([.ref q_this, .int x1]) (n := 2) (Nat.le_of_ble_eq_true rfl)
  rw [lg_entry_eq]
  generalize (lg_sl ([.ref q_this, .int x1]) ++ List.replicate (2 - (lg_sl ([.ref q_this, .int x1])).length) Slot.unset).toArray = ls at hl ⊢
  have hl : lv_has ls 2 [(0, .ref q_this), (1, .int x1)] := hl
  have hL78 := (hB _ bw616)
  have hL82 := (hB _ bw617)
  have hL85 := (hB _ bw615)
  have hL100 := (hB _ bw635)
  have hL108 := (hB _ bw621)
  have hL158 := (hB _ bw636)
  refine gx_abs (fun G eG => ?_)
  have j85 : ∀ (s0 : Int32) (f_thrown : Int32) (f_different : Int32) (f_colours : Nat → Int32) (f_many : Nat → Int32), vcMd_told_85 n_samples n_isGiven n_colours n_many f_width f_height f_groups f_rowSize f_ready f_size f_rounds f_samples f_isGiven x1 post s0 f_thrown f_different f_colours f_many → ∀ (H : Heap) (locs : List Loc) (ls : Array Slot), va_P (dC, dI) vwCl (wdMd_told q_this q_samples q_isGiven q_colours q_many r_gives r_group r_row r_channelOf r_spreads r_boxMany r_there r_groupMany r_means r_sums r_palette r_has r_takers r_takenSums r_order r_before r_roundSums r_carried c_samples c_isGiven c_colours c_many n_samples n_isGiven n_colours n_many f_thrown f_width f_height f_different f_groups f_rowSize f_ready f_size f_rounds f_samples f_isGiven f_colours f_many) H → va_D A (wdMd_told q_this q_samples q_isGiven q_colours q_many r_gives r_group r_row r_channelOf r_spreads r_boxMany r_there r_groupMany r_means r_sums r_palette r_has r_takers r_takenSums r_order r_before r_roundSums r_carried c_samples c_isGiven c_colours c_many n_samples n_isGiven n_colours n_many f_thrown f_width f_height f_different f_groups f_rowSize f_ready f_size f_rounds f_samples f_isGiven f_colours f_many) → va_S A s.heap H locs → lv_has ls 2 [] → G H locs 0 0 (F0 m 85 ls [.int s0]) := by
    intro s0 f_thrown f_different f_colours f_many hv H locs ls hP hD hS hl
    rw [eG]
    unfold vcMd_told_85 at hv
    exact W.iret (v := s0) hx hb hr (fun t ht hW => ⟨⟨_, (f_thrown, f_different, f_colours, f_many), rfl, hv, by rw [ht]; exact hP, hD⟩, hS.F ht⟩) hS.2.2 dMd_told_85
  rw [eG] at j85
  have j14 : ∀ (f_thrown : Int32) (f_different : Int32) (f_colours : Nat → Int32) (f_many : Nat → Int32), vcMd_told_14 n_samples n_isGiven n_colours n_many f_width f_height f_groups f_rowSize f_ready f_size f_rounds f_samples f_isGiven x1 post f_thrown f_different f_colours f_many → ∀ (H : Heap) (locs : List Loc) (ls : Array Slot), va_P (dC, dI) vwCl (wdMd_told q_this q_samples q_isGiven q_colours q_many r_gives r_group r_row r_channelOf r_spreads r_boxMany r_there r_groupMany r_means r_sums r_palette r_has r_takers r_takenSums r_order r_before r_roundSums r_carried c_samples c_isGiven c_colours c_many n_samples n_isGiven n_colours n_many f_thrown f_width f_height f_different f_groups f_rowSize f_ready f_size f_rounds f_samples f_isGiven f_colours f_many) H → va_D A (wdMd_told q_this q_samples q_isGiven q_colours q_many r_gives r_group r_row r_channelOf r_spreads r_boxMany r_there r_groupMany r_means r_sums r_palette r_has r_takers r_takenSums r_order r_before r_roundSums r_carried c_samples c_isGiven c_colours c_many n_samples n_isGiven n_colours n_many f_thrown f_width f_height f_different f_groups f_rowSize f_ready f_size f_rounds f_samples f_isGiven f_colours f_many) → va_S A s.heap H locs → lv_has ls 2 [(0, .ref q_this), (1, .int x1)] → G H locs 0 0 (F0 m 14 ls []) := by
    intro f_thrown f_different f_colours f_many hv H locs ls hP hD hS hl
    rw [eG]
    unfold vcMd_told_14 at hv
    refine lv_iload_n hx hb dMd_told_14 rfl (lv_at hl 1 rfl) ?_
    refine lv_if_ne (tgt := 25) hx hb dMd_told_15 (by decide) (fun c_1 => ?_) (fun c_1 => ?_)
    · have hv := hv.1 c_1
      refine lv_iload_n hx hb dMd_told_25 rfl (lv_at hl 1 rfl) ?_
      refine lv_iconst (v := 1) hx hb dMd_told_26 (by decide) ?_
      refine lv_icmp_ne (tgt := 37) hx hb dMd_told_27 (by decide) (fun c_2 => ?_) (fun c_2 => ?_)
      · have hv := hv.1 c_2
        refine lv_iload_n hx hb dMd_told_37 rfl (lv_at hl 1 rfl) ?_
        refine lv_iconst (v := 2) hx hb dMd_told_38 (by decide) ?_
        refine lv_icmp_ne (tgt := 49) hx hb dMd_told_39 (by decide) (fun c_3 => ?_) (fun c_3 => ?_)
        · have hv := hv.1 c_3
          refine lv_iload_n hx hb dMd_told_49 rfl (lv_at hl 1 rfl) ?_
          refine lv_iconst (v := 3) hx hb dMd_told_50 (by decide) ?_
          refine lv_icmp_ne (tgt := 72) hx hb dMd_told_51 (by decide) (fun c_4 => ?_) (fun c_4 => ?_)
          · have hv := hv.1 c_4
            refine lv_iload_n hx hb dMd_told_72 rfl (lv_at hl 1 rfl) ?_
            refine lv_iconst (v := 4) hx hb dMd_told_73 (by decide) ?_
            refine lv_icmp_ne (tgt := 84) hx hb dMd_told_74 (by decide) (fun c_5 => ?_) (fun c_5 => ?_)
            · have hv := hv.1 c_5
              refine lv_iconst (v := (-1)) hx hb dMd_told_84 (by decide) ?_
              exact j85 (-1) f_thrown f_different f_colours f_many hv _ _ _ hP hD hS (lv_sub hl [] rfl)
            · have hv := hv.2 c_5
              refine lv_aload_n hx hb dMd_told_77 rfl (lv_at hl 0 rfl) ?_
              refine gx_ri (va_runV (As := []) (rest := []) ⟨hx, hb, hml, hown, hB⟩ (metMd_givenCount l dC dI q_this q_isGiven q_samples r_gives q_colours q_many r_group r_row r_channelOf r_spreads r_boxMany r_there r_groupMany r_means r_sums r_palette r_has r_takers r_takenSums r_order r_before r_roundSums r_carried c_isGiven n_isGiven H.size f_thrown f_width f_height f_different f_groups f_rowSize f_ready f_size f_rounds f_isGiven hv) (cwV 0 hB (gx_gV bw706 bw707 bw25 bw53 bw708) rfl rfl rfl (by decide +kernel) ⟨(Nat.le_of_ble_eq_true rfl), (Nat.le_of_ble_eq_true rfl)⟩) (gx_rpreV (ci := 8) (hP.sub (ws' := (wdMd_givenCount q_this q_isGiven q_samples r_gives q_colours q_many r_group r_row r_channelOf r_spreads r_boxMany r_there r_groupMany r_means r_sums r_palette r_has r_takers r_takenSums r_order r_before r_roundSums r_carried c_isGiven n_isGiven f_thrown f_width f_height f_different f_groups f_rowSize f_ready f_size f_rounds f_isGiven)) [0, 2] rfl) (hK.sub (tys' := [(c_isGiven, .boolean)]) [1] rfl) hZ hS hA rfl rfl) rfl rfl hl.1 rfl (lv_room (Nat.le_of_ble_eq_true rfl)) dMd_told_78 ⟨(Nat.le_of_ble_eq_true rfl), (Nat.le_of_ble_eq_true rfl)⟩) hP hS hA (fun r_6 H locs hv hP hS => ?_)
              refine lv_goto (tgt := 85) hx hb dMd_told_81 (by decide) ?_
              exact j85 r_6 f_thrown f_different f_colours f_many hv _ _ _ hP hD hS (lv_sub hl [] rfl)
          · have hv := hv.2 c_4
            refine lv_aload_n hx hb dMd_told_54 rfl (lv_at hl 0 rfl) ?_
            refine va_get (D := (dC, dI)) (ci := 8) (v := .int f_ready) (C := RMd) (T := TMd) (N := 31) hx hb hB hiMd hown hK hP 0 rfl rfl 20 (by decide) hL100 (fun _ h9 => h9) rfl dMd_told_55 ?_
            refine lv_if_eq (tgt := 68) hx hb dMd_told_58 (by decide) (fun c_8 => ?_) (fun c_8 => ?_)
            · have hv := hv.1 c_8
              refine lv_iconst (v := 0) hx hb dMd_told_68 (by decide) ?_
              refine lv_goto (tgt := 85) hx hb dMd_told_69 (by decide) ?_
              exact j85 0 f_thrown f_different f_colours f_many hv _ _ _ hP hD hS (lv_sub hl [] rfl)
            · have hv := hv.2 c_8
              refine lv_aload_n hx hb dMd_told_61 rfl (lv_at hl 0 rfl) ?_
              refine va_get (D := (dC, dI)) (ci := 8) (v := .int f_size) (C := RMd) (T := TMd) (N := 31) hx hb hB hiMd hown hK hP 0 rfl rfl 21 (by decide) hL158 (fun _ h9 => h9) rfl dMd_told_62 ?_
              refine lv_goto (tgt := 85) hx hb dMd_told_65 (by decide) ?_
              exact j85 f_size f_thrown f_different f_colours f_many hv _ _ _ hP hD hS (lv_sub hl [] rfl)
        · have hv := hv.2 c_3
          refine lv_aload_n hx hb dMd_told_42 rfl (lv_at hl 0 rfl) ?_
          refine va_get (D := (dC, dI)) (ci := 8) (v := .int f_different) (C := RMd) (T := TMd) (N := 31) hx hb hB hiMd hown hK hP 0 rfl rfl 6 (by decide) hL108 (fun _ h9 => h9) rfl dMd_told_43 ?_
          refine lv_goto (tgt := 85) hx hb dMd_told_46 (by decide) ?_
          exact j85 f_different f_thrown f_different f_colours f_many hv _ _ _ hP hD hS (lv_sub hl [] rfl)
      · have hv := hv.2 c_2
        refine lv_aload_n hx hb dMd_told_30 rfl (lv_at hl 0 rfl) ?_
        refine va_get (D := (dC, dI)) (ci := 8) (v := .int f_height) (C := RMd) (T := TMd) (N := 31) hx hb hB hiMd hown hK hP 0 rfl rfl 2 (by decide) hL82 (fun _ h9 => h9) rfl dMd_told_31 ?_
        refine lv_goto (tgt := 85) hx hb dMd_told_34 (by decide) ?_
        exact j85 f_height f_thrown f_different f_colours f_many hv _ _ _ hP hD hS (lv_sub hl [] rfl)
    · have hv := hv.2 c_1
      refine lv_aload_n hx hb dMd_told_18 rfl (lv_at hl 0 rfl) ?_
      refine va_get (D := (dC, dI)) (ci := 8) (v := .int f_width) (C := RMd) (T := TMd) (N := 31) hx hb hB hiMd hown hK hP 0 rfl rfl 1 (by decide) hL78 (fun _ h9 => h9) rfl dMd_told_19 ?_
      refine lv_goto (tgt := 85) hx hb dMd_told_22 (by decide) ?_
      exact j85 f_width f_thrown f_different f_colours f_many hv _ _ _ hP hD hS (lv_sub hl [] rfl)
  rw [eG] at j14
  unfold wpMd_told at hw
  have hv := hw
  rw [eG]
  refine lv_aload_n hx hb dMd_told_0 rfl (lv_at hl 0 rfl) ?_
  refine lv_iconst (v := 0) hx hb dMd_told_1 (by decide) ?_
  refine va_put (D := (dC, dI)) (ci := 8) (v := .int 0) (ty := .int) (C := RMd) (T := TMd) (N := 31) hx hb hB hiMd tMd tMd_ok nMd hown hK hP hD hS 0 rfl rfl 0 (by decide) hL85 (fun _ h9 => h9) rfl (by decide +kernel) rfl rfl (Nat.le_of_ble_eq_true rfl) dMd_told_2 (fun H locs hP hD hS => ?_)
  have hP : va_P (dC, dI) vwCl (wdMd_told q_this q_samples q_isGiven q_colours q_many r_gives r_group r_row r_channelOf r_spreads r_boxMany r_there r_groupMany r_means r_sums r_palette r_has r_takers r_takenSums r_order r_before r_roundSums r_carried c_samples c_isGiven c_colours c_many n_samples n_isGiven n_colours n_many 0 f_width f_height f_different f_groups f_rowSize f_ready f_size f_rounds f_samples f_isGiven f_colours f_many) H := hP
  have hD : va_D A (wdMd_told q_this q_samples q_isGiven q_colours q_many r_gives r_group r_row r_channelOf r_spreads r_boxMany r_there r_groupMany r_means r_sums r_palette r_has r_takers r_takenSums r_order r_before r_roundSums r_carried c_samples c_isGiven c_colours c_many n_samples n_isGiven n_colours n_many 0 f_width f_height f_different f_groups f_rowSize f_ready f_size f_rounds f_samples f_isGiven f_colours f_many) := hD
  refine lv_iload_n hx hb dMd_told_5 rfl (lv_at hl 1 rfl) ?_
  refine lv_iconst (v := 2) hx hb dMd_told_6 (by decide) ?_
  refine lv_icmp_ne (tgt := 14) hx hb dMd_told_7 (by decide) (fun c_9 => ?_) (fun c_9 => ?_)
  · have hv := hv.1 c_9
    exact j14 0 f_different f_colours f_many hv _ _ _ hP hD hS (lv_sub hl [0, 1] rfl)
  · have hv := hv.2 c_9
    refine lv_aload_n hx hb dMd_told_10 rfl (lv_at hl 0 rfl) ?_
    have hFc := va_free (wc := (wdMd_findDifferent q_this q_samples q_colours q_many q_isGiven r_gives r_group r_row r_channelOf r_spreads r_boxMany r_there r_groupMany r_means r_sums r_palette r_has r_takers r_takenSums r_order r_before r_roundSums r_carried c_samples c_colours c_many n_samples n_colours n_many 0 f_width f_height f_different f_groups f_rowSize f_ready f_size f_rounds f_samples f_colours f_many)) hD hS hA [0, 1, 3, 4] rfl
    refine gx_v (wr := [(q_isGiven, .inl (c_isGiven, n_isGiven, .inl f_isGiven))]) (va_runV (As := []) (rest := []) ⟨hx, hb, hml, hown, hB⟩ (metMd_findDifferent l dC dI q_this q_samples q_colours q_many q_isGiven r_gives r_group r_row r_channelOf r_spreads r_boxMany r_there r_groupMany r_means r_sums r_palette r_has r_takers r_takenSums r_order r_before r_roundSums r_carried c_samples c_colours c_many n_samples n_colours n_many H.size 0 f_width f_height f_different f_groups f_rowSize f_ready f_size f_rounds f_samples f_colours f_many hv) (cwV 0 hB (gx_gV bw719 bw720 bw27 bw53 bw721) rfl rfl rfl (by decide +kernel) ⟨(Nat.le_of_ble_eq_true rfl), (Nat.le_of_ble_eq_true rfl)⟩) (gx_preV (ci := 8) (hP.sub (ws' := (wdMd_findDifferent q_this q_samples q_colours q_many q_isGiven r_gives r_group r_row r_channelOf r_spreads r_boxMany r_there r_groupMany r_means r_sums r_palette r_has r_takers r_takenSums r_order r_before r_roundSums r_carried c_samples c_colours c_many n_samples n_colours n_many 0 f_width f_height f_different f_groups f_rowSize f_ready f_size f_rounds f_samples f_colours f_many)) [0, 1, 3, 4] rfl) (hK.sub (tys' := [(c_samples, .int), (c_colours, .int), (c_many, .int)]) [0, 2, 3] rfl) (hD.sub (ws' := (wdMd_findDifferent q_this q_samples q_colours q_many q_isGiven r_gives r_group r_row r_channelOf r_spreads r_boxMany r_there r_groupMany r_means r_sums r_palette r_has r_takers r_takenSums r_order r_before r_roundSums r_carried c_samples c_colours c_many n_samples n_colours n_many 0 f_width f_height f_different f_groups f_rowSize f_ready f_size f_rounds f_samples f_colours f_many)) [0, 1, 3, 4] (by decide) rfl) hZ hS hFc rfl rfl) rfl rfl hl.1 rfl (lv_room (Nat.le_of_ble_eq_true rfl)) dMd_told_11 ⟨(Nat.le_of_ble_eq_true rfl), (Nat.le_of_ble_eq_true rfl)⟩) hP hD hS hFc [0, 1, 3, 4] [2] rfl rfl (by decide) (by decide) (fun u_13 H locs hv hP hD hS => ?_)
    obtain ⟨f_different_10, f_colours_11, f_many_12⟩ := u_13
    have hP : va_P (dC, dI) vwCl (wdMd_told q_this q_samples q_isGiven q_colours q_many r_gives r_group r_row r_channelOf r_spreads r_boxMany r_there r_groupMany r_means r_sums r_palette r_has r_takers r_takenSums r_order r_before r_roundSums r_carried c_samples c_isGiven c_colours c_many n_samples n_isGiven n_colours n_many 0 f_width f_height f_different_10 f_groups f_rowSize f_ready f_size f_rounds f_samples f_isGiven f_colours_11 f_many_12) H := hP.sub [1, 2, 0, 3, 4] rfl
    have hD : va_D A (wdMd_told q_this q_samples q_isGiven q_colours q_many r_gives r_group r_row r_channelOf r_spreads r_boxMany r_there r_groupMany r_means r_sums r_palette r_has r_takers r_takenSums r_order r_before r_roundSums r_carried c_samples c_isGiven c_colours c_many n_samples n_isGiven n_colours n_many 0 f_width f_height f_different_10 f_groups f_rowSize f_ready f_size f_rounds f_samples f_isGiven f_colours_11 f_many_12) := hD.sub [1, 2, 0, 3, 4] (by decide) rfl
    exact j14 0 f_different_10 f_colours_11 f_many_12 hv _ _ _ hP hD hS (lv_sub hl [0, 1] rfl)
abbrev wdMd_clear (q_this q_samples q_isGiven r_gives r_colours r_many r_group r_row r_channelOf r_spreads r_boxMany r_there r_groupMany r_means r_sums r_palette r_has r_takers r_takenSums r_order r_before r_roundSums r_carried : Nat) (c_samples c_isGiven : ClassId) (n_samples n_isGiven : Nat) (f_thrown : Int32) (f_width : Int32) (f_height : Int32) (f_different : Int32) (f_groups : Int32) (f_rowSize : Int32) (f_ready : Int32) (f_size : Int32) (f_rounds : Int32) (f_samples : Nat → Int32) (f_isGiven : Nat → Int32) : va_W := [(q_this, .inr (8, [.int f_thrown, .int f_width, .int f_height, .ref q_samples, .ref q_isGiven, .ref r_gives, .int f_different, .ref r_colours, .ref r_many, .ref r_group, .int f_groups, .ref r_row, .int f_rowSize, .ref r_channelOf, .ref r_spreads, .ref r_boxMany, .ref r_there, .ref r_groupMany, .ref r_means, .ref r_sums, .int f_ready, .int f_size, .ref r_palette, .ref r_has, .ref r_takers, .ref r_takenSums, .ref r_order, .ref r_before, .int f_rounds, .ref r_roundSums, .ref r_carried])), (q_samples, .inl (c_samples, n_samples, .inl f_samples)), (q_isGiven, .inl (c_isGiven, n_isGiven, .inl f_isGiven))]
set_option maxHeartbeats 4000000 in
set_option maxRecDepth 100000 in
theorem metMd_clear (l : Launch) (dC : Nat → ClassId) (dI : Nat → Nat → Nat) (q_this q_samples q_isGiven r_gives r_colours r_many r_group r_row r_channelOf r_spreads r_boxMany r_there r_groupMany r_means r_sums r_palette r_has r_takers r_takenSums r_order r_before r_roundSums r_carried : Nat) (c_samples c_isGiven : ClassId) (n_samples n_isGiven : Nat) (sz : Nat) (f_thrown : Int32) (f_width : Int32) (f_height : Int32) (f_different : Int32) (f_groups : Int32) (f_rowSize : Int32) (f_ready : Int32) (f_size : Int32) (f_rounds : Int32) (f_samples : Nat → Int32) (f_isGiven : Nat → Int32) {post : Int32 → Int32 → (Nat → Int32) → (Nat → Int32) → Prop} (hw : wpMd_clear n_samples n_isGiven f_thrown f_width f_height f_different f_groups f_rowSize f_ready f_size f_rounds f_samples f_isGiven post) : Met l yMd_clear (.code yMd_clear bMd_clear 2 none :: BIG) ({ frames := 0, cells := 0, slots := 0, locals := 0 }) (va_Pc [.ref q_this] (gx_pre (dC, dI) vwCl (wdMd_clear q_this q_samples q_isGiven r_gives r_colours r_many r_group r_row r_channelOf r_spreads r_boxMany r_there r_groupMany r_means r_sums r_palette r_has r_takers r_takenSums r_order r_before r_roundSums r_carried c_samples c_isGiven n_samples n_isGiven f_thrown f_width f_height f_different f_groups f_rowSize f_ready f_size f_rounds f_samples f_isGiven) [(c_samples, .int), (c_isGiven, .boolean)] sz)) (va_Qv (fun (u : Int32 × Int32 × (Nat → Int32) × (Nat → Int32)) => post u.1 u.2.1 u.2.2.1 u.2.2.2) (gx_B (dC, dI) vwCl (va_A (wdMd_clear q_this q_samples q_isGiven r_gives r_colours r_many r_group r_row r_channelOf r_spreads r_boxMany r_there r_groupMany r_means r_sums r_palette r_has r_takers r_takenSums r_order r_before r_roundSums r_carried c_samples c_isGiven n_samples n_isGiven f_thrown f_width f_height f_different f_groups f_rowSize f_ready f_size f_rounds f_samples f_isGiven) sz) (fun (u : Int32 × Int32 × (Nat → Int32) × (Nat → Int32)) => (wdMd_clear q_this q_samples q_isGiven r_gives r_colours r_many r_group r_row r_channelOf r_spreads r_boxMany r_there r_groupMany r_means r_sums r_palette r_has r_takers r_takenSums r_order r_before r_roundSums r_carried c_samples c_isGiven n_samples n_isGiven u.1 f_width f_height f_different f_groups f_rowSize u.2.1 f_size f_rounds u.2.2.1 u.2.2.2))) (va_A (wdMd_clear q_this q_samples q_isGiven r_gives r_colours r_many r_group r_row r_channelOf r_spreads r_boxMany r_there r_groupMany r_means r_sums r_palette r_has r_takers r_takenSums r_order r_before r_roundSums r_carried c_samples c_isGiven n_samples n_isGiven f_thrown f_width f_height f_different f_groups f_rowSize f_ready f_size f_rounds f_samples f_isGiven) sz)) 0 0 (va_A (wdMd_clear q_this q_samples q_isGiven r_gives r_colours r_many r_group r_row r_channelOf r_spreads r_boxMany r_there r_groupMany r_means r_sums r_palette r_has r_takers r_takenSums r_order r_before r_roundSums r_carried c_samples c_isGiven n_samples n_isGiven f_thrown f_width f_height f_different f_groups f_rowSize f_ready f_size f_rounds f_samples f_isGiven) sz) := by
  refine Met.ofW (cc := bMd_clear) (maxL := 2) (ret := none) (by decide) rfl ?_
  intro p e s m args below meth c s₁ B hml hv
  obtain ⟨rfl, hsz, hP, hK, hD0, hZ⟩ := hv
  have hx := B.exec
  have hb := B.bytes
  have hr := B.returns
  have hts := atoms_spec (ws := (.code yMd_clear bMd_clear 2 none :: BIG)) B.pre
  have hB : ∀ w ∈ BIG, w.before _ s = true := fun w h => hts w (List.mem_cons_of_mem _ h)
  have hown : s.vm.findClass RMd = some m.cls := findClass_of_methodNamed B.named
  have hlocks := B.notSynchronized
  subst hsz
  have hD := hD0.self (sz := s.heap.size)
  generalize hAe : va_A (wdMd_clear q_this q_samples q_isGiven r_gives r_colours r_many r_group r_row r_channelOf r_spreads r_boxMany r_there r_groupMany r_means r_sums r_palette r_has r_takers r_takenSums r_order r_before r_roundSums r_carried c_samples c_isGiven n_samples n_isGiven f_thrown f_width f_height f_different f_groups f_rowSize f_ready f_size f_rounds f_samples f_isGiven) s.heap.size = A at hD hZ ⊢
  have hA : ∀ q : Nat, s.heap.size ≤ q → A q := fun q h => by rw [← hAe]; exact Or.inr h
  have hS : va_S A s.heap s.heap [] := va_S.rf
  have hl := lv_entry ([.ref q_this]) (n := 2) (Nat.le_of_ble_eq_true rfl)
  rw [lg_entry_eq]
  generalize (lg_sl ([.ref q_this]) ++ List.replicate (2 - (lg_sl ([.ref q_this])).length) Slot.unset).toArray = ls at hl ⊢
  have hl : lv_has ls 2 [(0, .ref q_this)] := hl
  have hL7 := (hB _ bw618)
  have hL13 := (hB _ bw619)
  have hL78 := (hB _ bw616)
  have hL82 := (hB _ bw617)
  have hL85 := (hB _ bw615)
  have hL100 := (hB _ bw635)
  refine gx_abs (fun G eG => ?_)
  obtain ⟨K7, eK7⟩ : ∃ K : Int32 → Int32 → Int32 → (Nat → Int32) → (Nat → Int32) → Prop, K = fun v1 f_thrown f_ready f_samples f_isGiven => ∀ (H : Heap) (locs : List Loc) (ls : Array Slot), va_P (dC, dI) vwCl (wdMd_clear q_this q_samples q_isGiven r_gives r_colours r_many r_group r_row r_channelOf r_spreads r_boxMany r_there r_groupMany r_means r_sums r_palette r_has r_takers r_takenSums r_order r_before r_roundSums r_carried c_samples c_isGiven n_samples n_isGiven f_thrown f_width f_height f_different f_groups f_rowSize f_ready f_size f_rounds f_samples f_isGiven) H → va_D A (wdMd_clear q_this q_samples q_isGiven r_gives r_colours r_many r_group r_row r_channelOf r_spreads r_boxMany r_there r_groupMany r_means r_sums r_palette r_has r_takers r_takenSums r_order r_before r_roundSums r_carried c_samples c_isGiven n_samples n_isGiven f_thrown f_width f_height f_different f_groups f_rowSize f_ready f_size f_rounds f_samples f_isGiven) → va_S A s.heap H locs → lv_has ls 2 [(0, .ref q_this), (1, .int v1)] → G H locs 0 0 (F0 m 7 ls []) := ⟨_, rfl⟩
  obtain ⟨K37, eK37⟩ : ∃ K : Int32 → Int32 → Int32 → (Nat → Int32) → (Nat → Int32) → Prop, K = fun v1 f_thrown f_ready f_samples f_isGiven => ∀ (H : Heap) (locs : List Loc) (ls : Array Slot), va_P (dC, dI) vwCl (wdMd_clear q_this q_samples q_isGiven r_gives r_colours r_many r_group r_row r_channelOf r_spreads r_boxMany r_there r_groupMany r_means r_sums r_palette r_has r_takers r_takenSums r_order r_before r_roundSums r_carried c_samples c_isGiven n_samples n_isGiven f_thrown f_width f_height f_different f_groups f_rowSize f_ready f_size f_rounds f_samples f_isGiven) H → va_D A (wdMd_clear q_this q_samples q_isGiven r_gives r_colours r_many r_group r_row r_channelOf r_spreads r_boxMany r_there r_groupMany r_means r_sums r_palette r_has r_takers r_takenSums r_order r_before r_roundSums r_carried c_samples c_isGiven n_samples n_isGiven f_thrown f_width f_height f_different f_groups f_rowSize f_ready f_size f_rounds f_samples f_isGiven) → va_S A s.heap H locs → lv_has ls 2 [(0, .ref q_this), (1, .int v1)] → G H locs 0 0 (F0 m 37 ls []) := ⟨_, rfl⟩
  unfold wpMd_clear at hw
  have hv := hw K7 K37
  have hv := hv (by
    intro v1 f_thrown f_ready f_samples f_isGiven hv
    rw [eK7]
    intro H locs ls hP hD hS hl
    rw [eG]
    unfold vcMd_clear_7 at hv
    refine lv_iload_n hx hb dMd_clear_7 rfl (lv_at hl 1 rfl) ?_
    refine lv_iconst (v := 4) hx hb dMd_clear_8 (by decide) ?_
    refine lv_aload_n hx hb dMd_clear_9 rfl (lv_at hl 0 rfl) ?_
    refine va_get (D := (dC, dI)) (ci := 8) (v := .int f_width) (C := RMd) (T := TMd) (N := 31) hx hb hB hiMd hown hK hP 0 rfl rfl 1 (by decide) hL78 (fun _ h9 => h9) rfl dMd_clear_10 ?_
    refine lv_imul hx hb dMd_clear_13 ?_
    refine lv_aload_n hx hb dMd_clear_14 rfl (lv_at hl 0 rfl) ?_
    refine va_get (D := (dC, dI)) (ci := 8) (v := .int f_height) (C := RMd) (T := TMd) (N := 31) hx hb hB hiMd hown hK hP 0 rfl rfl 2 (by decide) hL82 (fun _ h9 => h9) rfl dMd_clear_15 ?_
    refine lv_imul hx hb dMd_clear_18 ?_
    refine lv_icmp_ge (tgt := 35) hx hb dMd_clear_19 (by decide) (fun c_1 => ?_) (fun c_1 => ?_)
    · have hv := hv.1 c_1
      refine lv_iconst (v := 0) hx hb dMd_clear_35 (by decide) ?_
      refine lv_istore_n (lv' := [(1, .int 0), (0, .ref q_this)]) hx hb dMd_clear_36 rfl hl (by decide) rfl (fun ls hl => ?_)
      rw [eK37, eG] at hv
      exact hv _ _ _ hP hD hS (lv_sub hl [1, 0] rfl)
    · have hv := hv.2 c_1
      refine lv_aload_n hx hb dMd_clear_22 rfl (lv_at hl 0 rfl) ?_
      refine va_get (D := (dC, dI)) (ci := 8) (v := .ref q_samples) (C := RMd) (T := TMd) (N := 31) hx hb hB hiMd hown hK hP 0 rfl rfl 3 (by decide) hL7 (fun _ h9 => h9) rfl dMd_clear_23 ?_
      refine lv_iload_n hx hb dMd_clear_26 rfl (lv_at hl 1 rfl) ?_
      refine lv_iconst (v := 0) hx hb dMd_clear_27 (by decide) ?_
      obtain ⟨h_2, hv⟩ := hv
      refine va_iast hx hb hK hP hD hS 1 0 rfl rfl h_2 dMd_clear_28 (fun H locs hP hD hS => ?_)
      have hP : va_P (dC, dI) vwCl (wdMd_clear q_this q_samples q_isGiven r_gives r_colours r_many r_group r_row r_channelOf r_spreads r_boxMany r_there r_groupMany r_means r_sums r_palette r_has r_takers r_takenSums r_order r_before r_roundSums r_carried c_samples c_isGiven n_samples n_isGiven f_thrown f_width f_height f_different f_groups f_rowSize f_ready f_size f_rounds (upd f_samples v1.toNatClampNeg 0) f_isGiven) H := hP
      have hD : va_D A (wdMd_clear q_this q_samples q_isGiven r_gives r_colours r_many r_group r_row r_channelOf r_spreads r_boxMany r_there r_groupMany r_means r_sums r_palette r_has r_takers r_takenSums r_order r_before r_roundSums r_carried c_samples c_isGiven n_samples n_isGiven f_thrown f_width f_height f_different f_groups f_rowSize f_ready f_size f_rounds (upd f_samples v1.toNatClampNeg 0) f_isGiven) := hD
      refine lv_iinc (v := v1 + 1) (lv' := [(1, .int (v1 + 1)), (0, .ref q_this)]) hx hb dMd_clear_29 hl (k := 1) rfl rfl (by decide) rfl (fun ls hl => ?_)
      refine lv_goto (tgt := 7) hx hb dMd_clear_32 (by decide) ?_
      rw [eK7, eG] at hv
      exact hv _ _ _ hP hD hS (lv_sub hl [1, 0] rfl))
  have hv := hv (by
    intro v1 f_thrown f_ready f_samples f_isGiven hv
    rw [eK37]
    intro H locs ls hP hD hS hl
    rw [eG]
    unfold vcMd_clear_37 at hv
    refine lv_iload_n hx hb dMd_clear_37 rfl (lv_at hl 1 rfl) ?_
    refine lv_bipush (v := 64) hx hb dMd_clear_38 (by decide) ?_
    refine lv_icmp_ge (tgt := 56) hx hb dMd_clear_40 (by decide) (fun c_4 => ?_) (fun c_4 => ?_)
    · have hv := hv.1 c_4
      refine lv_aload_n hx hb dMd_clear_56 rfl (lv_at hl 0 rfl) ?_
      refine lv_iconst (v := 0) hx hb dMd_clear_57 (by decide) ?_
      refine va_put (D := (dC, dI)) (ci := 8) (v := .int 0) (ty := .boolean) (C := RMd) (T := TMd) (N := 31) hx hb hB hiMd tMd tMd_ok nMd hown hK hP hD hS 0 rfl rfl 20 (by decide) hL100 (fun _ h9 => h9) rfl (by decide +kernel) rfl rfl (Nat.le_of_ble_eq_true rfl) dMd_clear_58 (fun H locs hP hD hS => ?_)
      have hP : va_P (dC, dI) vwCl (wdMd_clear q_this q_samples q_isGiven r_gives r_colours r_many r_group r_row r_channelOf r_spreads r_boxMany r_there r_groupMany r_means r_sums r_palette r_has r_takers r_takenSums r_order r_before r_roundSums r_carried c_samples c_isGiven n_samples n_isGiven f_thrown f_width f_height f_different f_groups f_rowSize 0 f_size f_rounds f_samples f_isGiven) H := hP
      have hD : va_D A (wdMd_clear q_this q_samples q_isGiven r_gives r_colours r_many r_group r_row r_channelOf r_spreads r_boxMany r_there r_groupMany r_means r_sums r_palette r_has r_takers r_takenSums r_order r_before r_roundSums r_carried c_samples c_isGiven n_samples n_isGiven f_thrown f_width f_height f_different f_groups f_rowSize 0 f_size f_rounds f_samples f_isGiven) := hD
      exact W.vret hx hb hr (fun t ht hW => ⟨⟨(f_thrown, 0, f_samples, f_isGiven), rfl, hv, by rw [ht]; exact hP, hD⟩, hS.F ht⟩) hS.2.2 dMd_clear_61
    · have hv := hv.2 c_4
      refine lv_aload_n hx hb dMd_clear_43 rfl (lv_at hl 0 rfl) ?_
      refine va_get (D := (dC, dI)) (ci := 8) (v := .ref q_isGiven) (C := RMd) (T := TMd) (N := 31) hx hb hB hiMd hown hK hP 0 rfl rfl 4 (by decide) hL13 (fun _ h9 => h9) rfl dMd_clear_44 ?_
      refine lv_iload_n hx hb dMd_clear_47 rfl (lv_at hl 1 rfl) ?_
      refine lv_iconst (v := 0) hx hb dMd_clear_48 (by decide) ?_
      obtain ⟨h_5, hv⟩ := hv
      refine va_zast hx hb hK hP hD hS 2 1 rfl rfl h_5 dMd_clear_49 (fun H locs hP hD hS => ?_)
      have hP : va_P (dC, dI) vwCl (wdMd_clear q_this q_samples q_isGiven r_gives r_colours r_many r_group r_row r_channelOf r_spreads r_boxMany r_there r_groupMany r_means r_sums r_palette r_has r_takers r_takenSums r_order r_before r_roundSums r_carried c_samples c_isGiven n_samples n_isGiven f_thrown f_width f_height f_different f_groups f_rowSize f_ready f_size f_rounds f_samples (upd f_isGiven v1.toNatClampNeg (vp_nar .boolean 0))) H := hP
      have hD : va_D A (wdMd_clear q_this q_samples q_isGiven r_gives r_colours r_many r_group r_row r_channelOf r_spreads r_boxMany r_there r_groupMany r_means r_sums r_palette r_has r_takers r_takenSums r_order r_before r_roundSums r_carried c_samples c_isGiven n_samples n_isGiven f_thrown f_width f_height f_different f_groups f_rowSize f_ready f_size f_rounds f_samples (upd f_isGiven v1.toNatClampNeg (vp_nar .boolean 0))) := hD
      refine lv_iinc (v := v1 + 1) (lv' := [(1, .int (v1 + 1)), (0, .ref q_this)]) hx hb dMd_clear_50 hl (k := 1) rfl rfl (by decide) rfl (fun ls hl => ?_)
      refine lv_goto (tgt := 37) hx hb dMd_clear_53 (by decide) ?_
      rw [eK37, eG] at hv
      exact hv _ _ _ hP hD hS (lv_sub hl [1, 0] rfl))
  rw [eG]
  refine lv_aload_n hx hb dMd_clear_0 rfl (lv_at hl 0 rfl) ?_
  refine lv_iconst (v := 0) hx hb dMd_clear_1 (by decide) ?_
  refine va_put (D := (dC, dI)) (ci := 8) (v := .int 0) (ty := .int) (C := RMd) (T := TMd) (N := 31) hx hb hB hiMd tMd tMd_ok nMd hown hK hP hD hS 0 rfl rfl 0 (by decide) hL85 (fun _ h9 => h9) rfl (by decide +kernel) rfl rfl (Nat.le_of_ble_eq_true rfl) dMd_clear_2 (fun H locs hP hD hS => ?_)
  have hP : va_P (dC, dI) vwCl (wdMd_clear q_this q_samples q_isGiven r_gives r_colours r_many r_group r_row r_channelOf r_spreads r_boxMany r_there r_groupMany r_means r_sums r_palette r_has r_takers r_takenSums r_order r_before r_roundSums r_carried c_samples c_isGiven n_samples n_isGiven 0 f_width f_height f_different f_groups f_rowSize f_ready f_size f_rounds f_samples f_isGiven) H := hP
  have hD : va_D A (wdMd_clear q_this q_samples q_isGiven r_gives r_colours r_many r_group r_row r_channelOf r_spreads r_boxMany r_there r_groupMany r_means r_sums r_palette r_has r_takers r_takenSums r_order r_before r_roundSums r_carried c_samples c_isGiven n_samples n_isGiven 0 f_width f_height f_different f_groups f_rowSize f_ready f_size f_rounds f_samples f_isGiven) := hD
  refine lv_iconst (v := 0) hx hb dMd_clear_5 (by decide) ?_
  refine lv_istore_n (lv' := [(1, .int 0), (0, .ref q_this)]) hx hb dMd_clear_6 rfl hl (by decide) rfl (fun ls hl => ?_)
  rw [eK7, eG] at hv
  exact hv _ _ _ hP hD hS (lv_sub hl [1, 0] rfl)
set_option maxHeartbeats 4000000 in
set_option maxRecDepth 100000 in
theorem metOf_init (l : Launch) (dC : Nat → ClassId) (dI : Nat → Nat → Nat) (q_this : Nat) (sz : Nat) {post : Nat → Nat → Int32 → Prop} (hw : wpOf_init post) : Met l yOf_init (.code yOf_init bOf_init 1 none :: BIG) ({ frames := 1, cells := 2, slots := 128, locals := 20 }) (va_Pc [.ref q_this] (gx_pre (dC, dI) vwCl [(q_this, .inr (3, [.null, .null, .int 0]))] [] sz)) (va_Qv (fun (u : Nat × Nat × ClassId × ClassId × Nat × Nat × Int32) => post u.2.2.2.2.1 u.2.2.2.2.2.1 u.2.2.2.2.2.2) (gx_BK (dC, dI) vwCl (va_A [(q_this, .inr (3, [.null, .null, .int 0]))] sz) (fun (u : Nat × Nat × ClassId × ClassId × Nat × Nat × Int32) => [(q_this, .inr (3, [.ref u.1, .ref u.2.1, .int u.2.2.2.2.2.2])), (u.1, .inl (u.2.2.1, u.2.2.2.2.1, .inl (fun _ => 0))), (u.2.1, .inl (u.2.2.2.1, u.2.2.2.2.2.1, .inl (fun _ => 0)))]) (fun (u : Nat × Nat × ClassId × ClassId × Nat × Nat × Int32) => [(u.2.2.1, .int), (u.2.2.2.1, .boolean)])) (va_A [(q_this, .inr (3, [.null, .null, .int 0]))] sz)) 2 128 (va_A [(q_this, .inr (3, [.null, .null, .int 0]))] sz) := by
  refine Met.ofW (cc := bOf_init) (maxL := 1) (ret := none) (by decide) rfl ?_
  intro p e s m args below meth c s₁ B hml hv
  obtain ⟨rfl, hsz, hP, hK, hD0, hZ⟩ := hv
  have hx := B.exec
  have hb := B.bytes
  have hr := B.returns
  have hts := atoms_spec (ws := (.code yOf_init bOf_init 1 none :: BIG)) B.pre
  have hB : ∀ w ∈ BIG, w.before _ s = true := fun w h => hts w (List.mem_cons_of_mem _ h)
  have hown : s.vm.findClass ROf = some m.cls := findClass_of_methodNamed B.named
  have hlocks := B.notSynchronized
  have hin : meth.name = "<init>" := (name_of_methodNamed B.named B.method).1
  subst hsz
  have hD := hD0.self (sz := s.heap.size)
  generalize hAe : va_A [(q_this, .inr (3, [.null, .null, .int 0]))] s.heap.size = A at hD hZ ⊢
  have hA : ∀ q : Nat, s.heap.size ≤ q → A q := fun q h => by rw [← hAe]; exact Or.inr h
  have hS : va_S A s.heap s.heap [] := va_S.rf
  have hl := lv_entry ([.ref q_this]) (n := 1) (Nat.le_of_ble_eq_true rfl)
  rw [lg_entry_eq]
  generalize (lg_sl ([.ref q_this]) ++ List.replicate (1 - (lg_sl ([.ref q_this])).length) Slot.unset).toArray = ls at hl ⊢
  have hl : lv_has ls 1 [(0, .ref q_this)] := hl
  have hL9 := (hB _ bw150)
  have hL15 := (hB _ bw151)
  unfold wpOf_init at hw
  have hv := hw
  refine lv_aload_n hx hb dOf_init_0 rfl (lv_at hl 0 rfl) ?_
  refine W.objInit hx hb hown (hB _ bw149) (hB _ bw68) (hB _ bw69) rfl (by rw [hml]; exact hl.1) rfl dOf_init_1 (Nat.le_of_ble_eq_true rfl) (Nat.le_of_ble_eq_true rfl) ?_
  refine W.eq (g2 := F0 m 4 ls []) rfl ?_
  refine lv_aload_n hx hb dOf_init_4 rfl (lv_at hl 0 rfl) ?_
  refine lv_bipush (v := 64) hx hb dOf_init_5 (by decide) ?_
  refine va_newa (atype := .int) (ty := .int) (N' := 64) (a0 := (64, .inl (fun _ => 0))) hx hb (hB _ bw109) rfl hK hP hD hS hA (fun _ => rfl) (by decide) (by decide) (by decide) (Nat.le_of_ble_eq_true rfl) (Nat.le_of_ble_eq_true rfl) dOf_init_7 (fun qa_1 ca_2 H hK hP hD hS => ?_)
  refine W.widen (k := 1) (n := 64) (by omega) (by omega) ?_
  have hP : va_P (dC, dI) vwCl [(q_this, .inr (3, [.null, .null, .int 0])), (qa_1, .inl (ca_2, 64, .inl (fun _ => 0)))] H := hP
  have hD : va_D A [(q_this, .inr (3, [.null, .null, .int 0])), (qa_1, .inl (ca_2, 64, .inl (fun _ => 0)))] := hD
  have hK : va_K (dC, dI) vwCl [(ca_2, .int)] s := hK
  refine va_putF (D := (dC, dI)) (ci := 3) (v := .ref qa_1) (ty := (.array .int)) (C := ROf) (T := TOf) (N := 3) hx hb hB hiOf tOf tOf_ok nOf hown hK hP hD hS 0 rfl rfl 0 (by decide) hL9 (fun _ h9 => h9) rfl hin rfl (by decide +kernel) rfl rfl (Nat.le_of_ble_eq_true rfl) dOf_init_9 (fun H locs hP hD hS => ?_)
  have hP : va_P (dC, dI) vwCl [(q_this, .inr (3, [.ref qa_1, .null, .int 0])), (qa_1, .inl (ca_2, 64, .inl (fun _ => 0)))] H := hP
  have hD : va_D A [(q_this, .inr (3, [.ref qa_1, .null, .int 0])), (qa_1, .inl (ca_2, 64, .inl (fun _ => 0)))] := hD
  have hK : va_K (dC, dI) vwCl [(ca_2, .int)] s := hK
  refine lv_aload_n hx hb dOf_init_12 rfl (lv_at hl 0 rfl) ?_
  refine lv_bipush (v := 64) hx hb dOf_init_13 (by decide) ?_
  refine va_newa (atype := .boolean) (ty := .boolean) (N' := 64) (a0 := (64, .inl (fun _ => 0))) hx hb (hB _ bw157) rfl hK hP hD hS hA (fun _ => rfl) (by decide) (by decide) (by decide) (Nat.le_of_ble_eq_true rfl) (Nat.le_of_ble_eq_true rfl) dOf_init_15 (fun qa_3 ca_4 H hK hP hD hS => ?_)
  refine W.widen (k := 2) (n := 128) (by omega) (by omega) ?_
  have hP : va_P (dC, dI) vwCl [(q_this, .inr (3, [.ref qa_1, .null, .int 0])), (qa_1, .inl (ca_2, 64, .inl (fun _ => 0))), (qa_3, .inl (ca_4, 64, .inl (fun _ => 0)))] H := hP
  have hD : va_D A [(q_this, .inr (3, [.ref qa_1, .null, .int 0])), (qa_1, .inl (ca_2, 64, .inl (fun _ => 0))), (qa_3, .inl (ca_4, 64, .inl (fun _ => 0)))] := hD
  have hK : va_K (dC, dI) vwCl [(ca_2, .int), (ca_4, .boolean)] s := hK
  refine va_putF (D := (dC, dI)) (ci := 3) (v := .ref qa_3) (ty := (.array .boolean)) (C := ROf) (T := TOf) (N := 3) hx hb hB hiOf tOf tOf_ok nOf hown hK hP hD hS 0 rfl rfl 1 (by decide) hL15 (fun _ h9 => h9) rfl hin rfl (by decide +kernel) rfl rfl (Nat.le_of_ble_eq_true rfl) dOf_init_17 (fun H locs hP hD hS => ?_)
  have hP : va_P (dC, dI) vwCl [(q_this, .inr (3, [.ref qa_1, .ref qa_3, .int 0])), (qa_1, .inl (ca_2, 64, .inl (fun _ => 0))), (qa_3, .inl (ca_4, 64, .inl (fun _ => 0)))] H := hP
  have hD : va_D A [(q_this, .inr (3, [.ref qa_1, .ref qa_3, .int 0])), (qa_1, .inl (ca_2, 64, .inl (fun _ => 0))), (qa_3, .inl (ca_4, 64, .inl (fun _ => 0)))] := hD
  have hK : va_K (dC, dI) vwCl [(ca_2, .int), (ca_4, .boolean)] s := hK
  have hP9 := hP.sub (ws' := [(q_this, .inr (3, [.ref qa_1, .ref qa_3, .int 0])), (qa_1, .inl (ca_2, 64, .inl (fun _ => 0))), (qa_3, .inl (ca_4, 64, .inl (fun _ => 0)))]) [0, 1, 2] rfl
  have hD9 := hD.sub (ws' := [(q_this, .inr (3, [.ref qa_1, .ref qa_3, .int 0])), (qa_1, .inl (ca_2, 64, .inl (fun _ => 0))), (qa_3, .inl (ca_4, 64, .inl (fun _ => 0)))]) [0, 1, 2] (by decide) rfl
  have hK9 := hK.sub (tys' := [(ca_2, .int), (ca_4, .boolean)]) [0, 1] rfl
  exact W.vret hx hb hr (fun t ht hW => ⟨⟨(qa_1, qa_3, ca_2, ca_4, 64, 64, 0), rfl, hv, by rw [ht]; exact hP9, va_K.moved hW.alike hK9, hD9⟩, hS.F ht⟩) hS.2.2 dOf_init_20
set_option maxHeartbeats 4000000 in
set_option maxRecDepth 100000 in
theorem metCa_init (l : Launch) (dC : Nat → ClassId) (dI : Nat → Nat → Nat) (q_this : Nat) (sz : Nat) (x1 : Int32) {post : Nat → Nat → Nat → Prop} (hw : wpCa_init x1 post) : Met l yCa_init (.code yCa_init bCa_init 2 none :: BIG) ({ frames := 1, cells := 3, slots := 104, locals := 20 }) (va_Pc [.ref q_this, .int x1] (gx_pre (dC, dI) vwCl [(q_this, .inr (1, [.null, .null, .null]))] [] sz)) (va_Qv (fun (u : Nat × Nat × Nat × ClassId × ClassId × ClassId × Nat × Nat × Nat) => post u.2.2.2.2.2.2.1 u.2.2.2.2.2.2.2.1 u.2.2.2.2.2.2.2.2) (gx_BK (dC, dI) vwCl (va_A [(q_this, .inr (1, [.null, .null, .null]))] sz) (fun (u : Nat × Nat × Nat × ClassId × ClassId × ClassId × Nat × Nat × Nat) => [(q_this, .inr (1, [.ref u.1, .ref u.2.1, .ref u.2.2.1])), (u.1, .inl (u.2.2.2.1, u.2.2.2.2.2.2.1, .inl (fun _ => 0))), (u.2.1, .inl (u.2.2.2.2.1, u.2.2.2.2.2.2.2.1, .inl (fun _ => 0))), (u.2.2.1, .inl (u.2.2.2.2.2.1, u.2.2.2.2.2.2.2.2, .inl (fun _ => 0)))]) (fun (u : Nat × Nat × Nat × ClassId × ClassId × ClassId × Nat × Nat × Nat) => [(u.2.2.2.1, .int), (u.2.2.2.2.1, .int), (u.2.2.2.2.2.1, .int)])) (va_A [(q_this, .inr (1, [.null, .null, .null]))] sz)) 3 104 (va_A [(q_this, .inr (1, [.null, .null, .null]))] sz) := by
  refine Met.ofW (cc := bCa_init) (maxL := 2) (ret := none) (by decide) rfl ?_
  intro p e s m args below meth c s₁ B hml hv
  obtain ⟨rfl, hsz, hP, hK, hD0, hZ⟩ := hv
  have hx := B.exec
  have hb := B.bytes
  have hr := B.returns
  have hts := atoms_spec (ws := (.code yCa_init bCa_init 2 none :: BIG)) B.pre
  have hB : ∀ w ∈ BIG, w.before _ s = true := fun w h => hts w (List.mem_cons_of_mem _ h)
  have hown : s.vm.findClass RCa = some m.cls := findClass_of_methodNamed B.named
  have hlocks := B.notSynchronized
  have hin : meth.name = "<init>" := (name_of_methodNamed B.named B.method).1
  subst hsz
  have hD := hD0.self (sz := s.heap.size)
  generalize hAe : va_A [(q_this, .inr (1, [.null, .null, .null]))] s.heap.size = A at hD hZ ⊢
  have hA : ∀ q : Nat, s.heap.size ≤ q → A q := fun q h => by rw [← hAe]; exact Or.inr h
  have hS : va_S A s.heap s.heap [] := va_S.rf
  have hl := lv_entry ([.ref q_this, .int x1]) (n := 2) (Nat.le_of_ble_eq_true rfl)
  rw [lg_entry_eq]
  generalize (lg_sl ([.ref q_this, .int x1]) ++ List.replicate (2 - (lg_sl ([.ref q_this, .int x1])).length) Slot.unset).toArray = ls at hl ⊢
  have hl : lv_has ls 2 [(0, .ref q_this), (1, .int x1)] := hl
  have hL9 := (hB _ bw197)
  have hL15 := (hB _ bw199)
  have hL18 := (hB _ bw198)
  unfold wpCa_init at hw
  have hv := hw
  refine lv_aload_n hx hb dCa_init_0 rfl (lv_at hl 0 rfl) ?_
  refine W.objInit hx hb hown (hB _ bw196) (hB _ bw68) (hB _ bw69) rfl (by rw [hml]; exact hl.1) rfl dCa_init_1 (Nat.le_of_ble_eq_true rfl) (Nat.le_of_ble_eq_true rfl) ?_
  refine W.eq (g2 := F0 m 4 ls []) rfl ?_
  refine lv_aload_n hx hb dCa_init_4 rfl (lv_at hl 0 rfl) ?_
  refine lv_iconst (v := 4) hx hb dCa_init_5 (by decide) ?_
  refine va_newa (atype := .int) (ty := .int) (N' := 4) (a0 := (4, .inl (fun _ => 0))) hx hb (hB _ bw109) rfl hK hP hD hS hA (fun _ => rfl) (by decide) (by decide) (by decide) (Nat.le_of_ble_eq_true rfl) (Nat.le_of_ble_eq_true rfl) dCa_init_6 (fun qa_1 ca_2 H hK hP hD hS => ?_)
  refine W.widen (k := 1) (n := 4) (by omega) (by omega) ?_
  have hP : va_P (dC, dI) vwCl [(q_this, .inr (1, [.null, .null, .null])), (qa_1, .inl (ca_2, 4, .inl (fun _ => 0)))] H := hP
  have hD : va_D A [(q_this, .inr (1, [.null, .null, .null])), (qa_1, .inl (ca_2, 4, .inl (fun _ => 0)))] := hD
  have hK : va_K (dC, dI) vwCl [(ca_2, .int)] s := hK
  refine va_putF (D := (dC, dI)) (ci := 1) (v := .ref qa_1) (ty := (.array .int)) (C := RCa) (T := TCa) (N := 3) hx hb hB hiCa tCa tCa_ok nCa hown hK hP hD hS 0 rfl rfl 0 (by decide) hL9 (fun _ h9 => h9) rfl hin rfl (by decide +kernel) rfl rfl (Nat.le_of_ble_eq_true rfl) dCa_init_8 (fun H locs hP hD hS => ?_)
  have hP : va_P (dC, dI) vwCl [(q_this, .inr (1, [.ref qa_1, .null, .null])), (qa_1, .inl (ca_2, 4, .inl (fun _ => 0)))] H := hP
  have hD : va_D A [(q_this, .inr (1, [.ref qa_1, .null, .null])), (qa_1, .inl (ca_2, 4, .inl (fun _ => 0)))] := hD
  have hK : va_K (dC, dI) vwCl [(ca_2, .int)] s := hK
  refine lv_aload_n hx hb dCa_init_11 rfl (lv_at hl 0 rfl) ?_
  refine lv_iconst (v := 4) hx hb dCa_init_12 (by decide) ?_
  refine va_newa (atype := .int) (ty := .int) (N' := 4) (a0 := (4, .inl (fun _ => 0))) hx hb (hB _ bw109) rfl hK hP hD hS hA (fun _ => rfl) (by decide) (by decide) (by decide) (Nat.le_of_ble_eq_true rfl) (Nat.le_of_ble_eq_true rfl) dCa_init_13 (fun qa_3 ca_4 H hK hP hD hS => ?_)
  refine W.widen (k := 2) (n := 8) (by omega) (by omega) ?_
  have hP : va_P (dC, dI) vwCl [(q_this, .inr (1, [.ref qa_1, .null, .null])), (qa_1, .inl (ca_2, 4, .inl (fun _ => 0))), (qa_3, .inl (ca_4, 4, .inl (fun _ => 0)))] H := hP
  have hD : va_D A [(q_this, .inr (1, [.ref qa_1, .null, .null])), (qa_1, .inl (ca_2, 4, .inl (fun _ => 0))), (qa_3, .inl (ca_4, 4, .inl (fun _ => 0)))] := hD
  have hK : va_K (dC, dI) vwCl [(ca_2, .int), (ca_4, .int)] s := hK
  refine va_putF (D := (dC, dI)) (ci := 1) (v := .ref qa_3) (ty := (.array .int)) (C := RCa) (T := TCa) (N := 3) hx hb hB hiCa tCa tCa_ok nCa hown hK hP hD hS 0 rfl rfl 2 (by decide) hL15 (fun _ h9 => h9) rfl hin rfl (by decide +kernel) rfl rfl (Nat.le_of_ble_eq_true rfl) dCa_init_15 (fun H locs hP hD hS => ?_)
  have hP : va_P (dC, dI) vwCl [(q_this, .inr (1, [.ref qa_1, .null, .ref qa_3])), (qa_1, .inl (ca_2, 4, .inl (fun _ => 0))), (qa_3, .inl (ca_4, 4, .inl (fun _ => 0)))] H := hP
  have hD : va_D A [(q_this, .inr (1, [.ref qa_1, .null, .ref qa_3])), (qa_1, .inl (ca_2, 4, .inl (fun _ => 0))), (qa_3, .inl (ca_4, 4, .inl (fun _ => 0)))] := hD
  have hK : va_K (dC, dI) vwCl [(ca_2, .int), (ca_4, .int)] s := hK
  refine lv_aload_n hx hb dCa_init_18 rfl (lv_at hl 0 rfl) ?_
  refine lv_iload_n hx hb dCa_init_19 rfl (lv_at hl 1 rfl) ?_
  refine lv_iconst (v := 4) hx hb dCa_init_20 (by decide) ?_
  refine lv_imul hx hb dCa_init_21 ?_
  obtain ⟨h_7, h_8, hv⟩ := hv
  refine va_newa (atype := .int) (ty := .int) (N' := (x1 * 4).toNatClampNeg) (a0 := ((x1 * 4).toNatClampNeg, .inl (fun _ => 0))) hx hb (hB _ bw109) rfl hK hP hD hS hA (fun _ => rfl) h_7 rfl (by simp only [componentBytes]; omega) (Nat.le_of_ble_eq_true rfl) (by show 8 + (x1 * 4).toNatClampNeg ≤ _; exact Nat.le_trans (Nat.add_le_add_left h_8 _) (Nat.le_of_ble_eq_true rfl)) dCa_init_22 (fun qa_5 ca_6 H hK hP hD hS => ?_)
  refine W.widen (k := 3) (n := 104) (by omega) (by omega) ?_
  have hP : va_P (dC, dI) vwCl [(q_this, .inr (1, [.ref qa_1, .null, .ref qa_3])), (qa_1, .inl (ca_2, 4, .inl (fun _ => 0))), (qa_3, .inl (ca_4, 4, .inl (fun _ => 0))), (qa_5, .inl (ca_6, (x1 * 4).toNatClampNeg, .inl (fun _ => 0)))] H := hP
  have hD : va_D A [(q_this, .inr (1, [.ref qa_1, .null, .ref qa_3])), (qa_1, .inl (ca_2, 4, .inl (fun _ => 0))), (qa_3, .inl (ca_4, 4, .inl (fun _ => 0))), (qa_5, .inl (ca_6, (x1 * 4).toNatClampNeg, .inl (fun _ => 0)))] := hD
  have hK : va_K (dC, dI) vwCl [(ca_2, .int), (ca_4, .int), (ca_6, .int)] s := hK
  refine va_putF (D := (dC, dI)) (ci := 1) (v := .ref qa_5) (ty := (.array .int)) (C := RCa) (T := TCa) (N := 3) hx hb hB hiCa tCa tCa_ok nCa hown hK hP hD hS 0 rfl rfl 1 (by decide) hL18 (fun _ h9 => h9) rfl hin rfl (by decide +kernel) rfl rfl (Nat.le_of_ble_eq_true rfl) dCa_init_24 (fun H locs hP hD hS => ?_)
  have hP : va_P (dC, dI) vwCl [(q_this, .inr (1, [.ref qa_1, .ref qa_5, .ref qa_3])), (qa_1, .inl (ca_2, 4, .inl (fun _ => 0))), (qa_3, .inl (ca_4, 4, .inl (fun _ => 0))), (qa_5, .inl (ca_6, (x1 * 4).toNatClampNeg, .inl (fun _ => 0)))] H := hP
  have hD : va_D A [(q_this, .inr (1, [.ref qa_1, .ref qa_5, .ref qa_3])), (qa_1, .inl (ca_2, 4, .inl (fun _ => 0))), (qa_3, .inl (ca_4, 4, .inl (fun _ => 0))), (qa_5, .inl (ca_6, (x1 * 4).toNatClampNeg, .inl (fun _ => 0)))] := hD
  have hK : va_K (dC, dI) vwCl [(ca_2, .int), (ca_4, .int), (ca_6, .int)] s := hK
  have hP9 := hP.sub (ws' := [(q_this, .inr (1, [.ref qa_1, .ref qa_5, .ref qa_3])), (qa_1, .inl (ca_2, 4, .inl (fun _ => 0))), (qa_5, .inl (ca_6, (x1 * 4).toNatClampNeg, .inl (fun _ => 0))), (qa_3, .inl (ca_4, 4, .inl (fun _ => 0)))]) [0, 1, 3, 2] rfl
  have hD9 := hD.sub (ws' := [(q_this, .inr (1, [.ref qa_1, .ref qa_5, .ref qa_3])), (qa_1, .inl (ca_2, 4, .inl (fun _ => 0))), (qa_5, .inl (ca_6, (x1 * 4).toNatClampNeg, .inl (fun _ => 0))), (qa_3, .inl (ca_4, 4, .inl (fun _ => 0)))]) [0, 1, 3, 2] (by decide) rfl
  have hK9 := hK.sub (tys' := [(ca_2, .int), (ca_6, .int), (ca_4, .int)]) [0, 2, 1] rfl
  exact W.vret hx hb hr (fun t ht hW => ⟨⟨(qa_1, qa_5, qa_3, ca_2, ca_6, ca_4, 4, (x1 * 4).toNatClampNeg, 4), rfl, hv, by rw [ht]; exact hP9, va_K.moved hW.alike hK9, hD9⟩, hS.F ht⟩) hS.2.2 dCa_init_27
set_option maxHeartbeats 4000000 in
set_option maxRecDepth 100000 in
theorem metBx_init (l : Launch) (dC : Nat → ClassId) (dI : Nat → Nat → Nat) (q_this : Nat) (sz : Nat) (x1 : Int32) {post : Nat → Nat → Nat → Nat → Nat → Nat → Int32 → Prop} (hw : wpBx_init x1 post) : Met l yBx_init (.code yBx_init bBx_init 2 none :: BIG) ({ frames := 1, cells := 6, slots := 896, locals := 20 }) (va_Pc [.ref q_this, .int x1] (gx_pre (dC, dI) vwCl [(q_this, .inr (0, [.null, .null, .null, .null, .null, .null, .int 0]))] [] sz)) (va_Qv (fun (u : Nat × Nat × Nat × Nat × Nat × Nat × ClassId × ClassId × ClassId × ClassId × ClassId × ClassId × Nat × Nat × Nat × Nat × Nat × Nat × Int32) => post u.2.2.2.2.2.2.2.2.2.2.2.2.1 u.2.2.2.2.2.2.2.2.2.2.2.2.2.1 u.2.2.2.2.2.2.2.2.2.2.2.2.2.2.1 u.2.2.2.2.2.2.2.2.2.2.2.2.2.2.2.1 u.2.2.2.2.2.2.2.2.2.2.2.2.2.2.2.2.1 u.2.2.2.2.2.2.2.2.2.2.2.2.2.2.2.2.2.1 u.2.2.2.2.2.2.2.2.2.2.2.2.2.2.2.2.2.2) (gx_BK (dC, dI) vwCl (va_A [(q_this, .inr (0, [.null, .null, .null, .null, .null, .null, .int 0]))] sz) (fun (u : Nat × Nat × Nat × Nat × Nat × Nat × ClassId × ClassId × ClassId × ClassId × ClassId × ClassId × Nat × Nat × Nat × Nat × Nat × Nat × Int32) => [(q_this, .inr (0, [.ref u.1, .ref u.2.1, .ref u.2.2.1, .ref u.2.2.2.1, .ref u.2.2.2.2.1, .ref u.2.2.2.2.2.1, .int u.2.2.2.2.2.2.2.2.2.2.2.2.2.2.2.2.2.2])), (u.1, .inl (u.2.2.2.2.2.2.1, u.2.2.2.2.2.2.2.2.2.2.2.2.1, .inl (fun _ => 0))), (u.2.1, .inl (u.2.2.2.2.2.2.2.1, u.2.2.2.2.2.2.2.2.2.2.2.2.2.1, .inl (fun _ => 0))), (u.2.2.1, .inl (u.2.2.2.2.2.2.2.2.1, u.2.2.2.2.2.2.2.2.2.2.2.2.2.2.1, .inl (fun _ => 0))), (u.2.2.2.1, .inl (u.2.2.2.2.2.2.2.2.2.1, u.2.2.2.2.2.2.2.2.2.2.2.2.2.2.2.1, .inl (fun _ => 0))), (u.2.2.2.2.1, .inl (u.2.2.2.2.2.2.2.2.2.2.1, u.2.2.2.2.2.2.2.2.2.2.2.2.2.2.2.2.1, .inl (fun _ => 0))), (u.2.2.2.2.2.1, .inl (u.2.2.2.2.2.2.2.2.2.2.2.1, u.2.2.2.2.2.2.2.2.2.2.2.2.2.2.2.2.2.1, .inl (fun _ => 0)))]) (fun (u : Nat × Nat × Nat × Nat × Nat × Nat × ClassId × ClassId × ClassId × ClassId × ClassId × ClassId × Nat × Nat × Nat × Nat × Nat × Nat × Int32) => [(u.2.2.2.2.2.2.1, .int), (u.2.2.2.2.2.2.2.1, .int), (u.2.2.2.2.2.2.2.2.1, .int), (u.2.2.2.2.2.2.2.2.2.1, .int), (u.2.2.2.2.2.2.2.2.2.2.1, .int), (u.2.2.2.2.2.2.2.2.2.2.2.1, .int)])) (va_A [(q_this, .inr (0, [.null, .null, .null, .null, .null, .null, .int 0]))] sz)) 6 896 (va_A [(q_this, .inr (0, [.null, .null, .null, .null, .null, .null, .int 0]))] sz) := by
  refine Met.ofW (cc := bBx_init) (maxL := 2) (ret := none) (by decide) rfl ?_
  intro p e s m args below meth c s₁ B hml hv
  obtain ⟨rfl, hsz, hP, hK, hD0, hZ⟩ := hv
  have hx := B.exec
  have hb := B.bytes
  have hr := B.returns
  have hts := atoms_spec (ws := (.code yBx_init bBx_init 2 none :: BIG)) B.pre
  have hB : ∀ w ∈ BIG, w.before _ s = true := fun w h => hts w (List.mem_cons_of_mem _ h)
  have hown : s.vm.findClass RBx = some m.cls := findClass_of_methodNamed B.named
  have hlocks := B.notSynchronized
  have hin : meth.name = "<init>" := (name_of_methodNamed B.named B.method).1
  subst hsz
  have hD := hD0.self (sz := s.heap.size)
  generalize hAe : va_A [(q_this, .inr (0, [.null, .null, .null, .null, .null, .null, .int 0]))] s.heap.size = A at hD hZ ⊢
  have hA : ∀ q : Nat, s.heap.size ≤ q → A q := fun q h => by rw [← hAe]; exact Or.inr h
  have hS : va_S A s.heap s.heap [] := va_S.rf
  have hl := lv_entry ([.ref q_this, .int x1]) (n := 2) (Nat.le_of_ble_eq_true rfl)
  rw [lg_entry_eq]
  generalize (lg_sl ([.ref q_this, .int x1]) ++ List.replicate (2 - (lg_sl ([.ref q_this, .int x1])).length) Slot.unset).toArray = ls at hl ⊢
  have hl : lv_has ls 2 [(0, .ref q_this), (1, .int x1)] := hl
  have hL9 := (hB _ bw118)
  have hL15 := (hB _ bw119)
  have hL18 := (hB _ bw120)
  have hL21 := (hB _ bw121)
  have hL24 := (hB _ bw122)
  have hL27 := (hB _ bw117)
  have hL30 := (hB _ bw123)
  unfold wpBx_init at hw
  have hv := hw
  refine lv_aload_n hx hb dBx_init_0 rfl (lv_at hl 0 rfl) ?_
  refine W.objInit hx hb hown (hB _ bw116) (hB _ bw68) (hB _ bw69) rfl (by rw [hml]; exact hl.1) rfl dBx_init_1 (Nat.le_of_ble_eq_true rfl) (Nat.le_of_ble_eq_true rfl) ?_
  refine W.eq (g2 := F0 m 4 ls []) rfl ?_
  refine lv_aload_n hx hb dBx_init_4 rfl (lv_at hl 0 rfl) ?_
  refine lv_bipush (v := 64) hx hb dBx_init_5 (by decide) ?_
  refine va_newa (atype := .int) (ty := .int) (N' := 64) (a0 := (64, .inl (fun _ => 0))) hx hb (hB _ bw109) rfl hK hP hD hS hA (fun _ => rfl) (by decide) (by decide) (by decide) (Nat.le_of_ble_eq_true rfl) (Nat.le_of_ble_eq_true rfl) dBx_init_7 (fun qa_1 ca_2 H hK hP hD hS => ?_)
  refine W.widen (k := 1) (n := 64) (by omega) (by omega) ?_
  have hP : va_P (dC, dI) vwCl [(q_this, .inr (0, [.null, .null, .null, .null, .null, .null, .int 0])), (qa_1, .inl (ca_2, 64, .inl (fun _ => 0)))] H := hP
  have hD : va_D A [(q_this, .inr (0, [.null, .null, .null, .null, .null, .null, .int 0])), (qa_1, .inl (ca_2, 64, .inl (fun _ => 0)))] := hD
  have hK : va_K (dC, dI) vwCl [(ca_2, .int)] s := hK
  refine va_putF (D := (dC, dI)) (ci := 0) (v := .ref qa_1) (ty := (.array .int)) (C := RBx) (T := TBx) (N := 7) hx hb hB hiBx tBx tBx_ok nBx hown hK hP hD hS 0 rfl rfl 1 (by decide) hL9 (fun _ h9 => h9) rfl hin rfl (by decide +kernel) rfl rfl (Nat.le_of_ble_eq_true rfl) dBx_init_9 (fun H locs hP hD hS => ?_)
  have hP : va_P (dC, dI) vwCl [(q_this, .inr (0, [.null, .ref qa_1, .null, .null, .null, .null, .int 0])), (qa_1, .inl (ca_2, 64, .inl (fun _ => 0)))] H := hP
  have hD : va_D A [(q_this, .inr (0, [.null, .ref qa_1, .null, .null, .null, .null, .int 0])), (qa_1, .inl (ca_2, 64, .inl (fun _ => 0)))] := hD
  have hK : va_K (dC, dI) vwCl [(ca_2, .int)] s := hK
  refine lv_aload_n hx hb dBx_init_12 rfl (lv_at hl 0 rfl) ?_
  refine lv_bipush (v := 64) hx hb dBx_init_13 (by decide) ?_
  refine va_newa (atype := .int) (ty := .int) (N' := 64) (a0 := (64, .inl (fun _ => 0))) hx hb (hB _ bw109) rfl hK hP hD hS hA (fun _ => rfl) (by decide) (by decide) (by decide) (Nat.le_of_ble_eq_true rfl) (Nat.le_of_ble_eq_true rfl) dBx_init_15 (fun qa_3 ca_4 H hK hP hD hS => ?_)
  refine W.widen (k := 2) (n := 128) (by omega) (by omega) ?_
  have hP : va_P (dC, dI) vwCl [(q_this, .inr (0, [.null, .ref qa_1, .null, .null, .null, .null, .int 0])), (qa_1, .inl (ca_2, 64, .inl (fun _ => 0))), (qa_3, .inl (ca_4, 64, .inl (fun _ => 0)))] H := hP
  have hD : va_D A [(q_this, .inr (0, [.null, .ref qa_1, .null, .null, .null, .null, .int 0])), (qa_1, .inl (ca_2, 64, .inl (fun _ => 0))), (qa_3, .inl (ca_4, 64, .inl (fun _ => 0)))] := hD
  have hK : va_K (dC, dI) vwCl [(ca_2, .int), (ca_4, .int)] s := hK
  refine va_putF (D := (dC, dI)) (ci := 0) (v := .ref qa_3) (ty := (.array .int)) (C := RBx) (T := TBx) (N := 7) hx hb hB hiBx tBx tBx_ok nBx hown hK hP hD hS 0 rfl rfl 2 (by decide) hL15 (fun _ h9 => h9) rfl hin rfl (by decide +kernel) rfl rfl (Nat.le_of_ble_eq_true rfl) dBx_init_17 (fun H locs hP hD hS => ?_)
  have hP : va_P (dC, dI) vwCl [(q_this, .inr (0, [.null, .ref qa_1, .ref qa_3, .null, .null, .null, .int 0])), (qa_1, .inl (ca_2, 64, .inl (fun _ => 0))), (qa_3, .inl (ca_4, 64, .inl (fun _ => 0)))] H := hP
  have hD : va_D A [(q_this, .inr (0, [.null, .ref qa_1, .ref qa_3, .null, .null, .null, .int 0])), (qa_1, .inl (ca_2, 64, .inl (fun _ => 0))), (qa_3, .inl (ca_4, 64, .inl (fun _ => 0)))] := hD
  have hK : va_K (dC, dI) vwCl [(ca_2, .int), (ca_4, .int)] s := hK
  refine lv_aload_n hx hb dBx_init_20 rfl (lv_at hl 0 rfl) ?_
  refine lv_bipush (v := 64) hx hb dBx_init_21 (by decide) ?_
  refine va_newa (atype := .int) (ty := .int) (N' := 64) (a0 := (64, .inl (fun _ => 0))) hx hb (hB _ bw109) rfl hK hP hD hS hA (fun _ => rfl) (by decide) (by decide) (by decide) (Nat.le_of_ble_eq_true rfl) (Nat.le_of_ble_eq_true rfl) dBx_init_23 (fun qa_5 ca_6 H hK hP hD hS => ?_)
  refine W.widen (k := 3) (n := 192) (by omega) (by omega) ?_
  have hP : va_P (dC, dI) vwCl [(q_this, .inr (0, [.null, .ref qa_1, .ref qa_3, .null, .null, .null, .int 0])), (qa_1, .inl (ca_2, 64, .inl (fun _ => 0))), (qa_3, .inl (ca_4, 64, .inl (fun _ => 0))), (qa_5, .inl (ca_6, 64, .inl (fun _ => 0)))] H := hP
  have hD : va_D A [(q_this, .inr (0, [.null, .ref qa_1, .ref qa_3, .null, .null, .null, .int 0])), (qa_1, .inl (ca_2, 64, .inl (fun _ => 0))), (qa_3, .inl (ca_4, 64, .inl (fun _ => 0))), (qa_5, .inl (ca_6, 64, .inl (fun _ => 0)))] := hD
  have hK : va_K (dC, dI) vwCl [(ca_2, .int), (ca_4, .int), (ca_6, .int)] s := hK
  refine va_putF (D := (dC, dI)) (ci := 0) (v := .ref qa_5) (ty := (.array .int)) (C := RBx) (T := TBx) (N := 7) hx hb hB hiBx tBx tBx_ok nBx hown hK hP hD hS 0 rfl rfl 3 (by decide) hL18 (fun _ h9 => h9) rfl hin rfl (by decide +kernel) rfl rfl (Nat.le_of_ble_eq_true rfl) dBx_init_25 (fun H locs hP hD hS => ?_)
  have hP : va_P (dC, dI) vwCl [(q_this, .inr (0, [.null, .ref qa_1, .ref qa_3, .ref qa_5, .null, .null, .int 0])), (qa_1, .inl (ca_2, 64, .inl (fun _ => 0))), (qa_3, .inl (ca_4, 64, .inl (fun _ => 0))), (qa_5, .inl (ca_6, 64, .inl (fun _ => 0)))] H := hP
  have hD : va_D A [(q_this, .inr (0, [.null, .ref qa_1, .ref qa_3, .ref qa_5, .null, .null, .int 0])), (qa_1, .inl (ca_2, 64, .inl (fun _ => 0))), (qa_3, .inl (ca_4, 64, .inl (fun _ => 0))), (qa_5, .inl (ca_6, 64, .inl (fun _ => 0)))] := hD
  have hK : va_K (dC, dI) vwCl [(ca_2, .int), (ca_4, .int), (ca_6, .int)] s := hK
  refine lv_aload_n hx hb dBx_init_28 rfl (lv_at hl 0 rfl) ?_
  refine lv_bipush (v := 64) hx hb dBx_init_29 (by decide) ?_
  refine va_newa (atype := .int) (ty := .int) (N' := 64) (a0 := (64, .inl (fun _ => 0))) hx hb (hB _ bw109) rfl hK hP hD hS hA (fun _ => rfl) (by decide) (by decide) (by decide) (Nat.le_of_ble_eq_true rfl) (Nat.le_of_ble_eq_true rfl) dBx_init_31 (fun qa_7 ca_8 H hK hP hD hS => ?_)
  refine W.widen (k := 4) (n := 256) (by omega) (by omega) ?_
  have hP : va_P (dC, dI) vwCl [(q_this, .inr (0, [.null, .ref qa_1, .ref qa_3, .ref qa_5, .null, .null, .int 0])), (qa_1, .inl (ca_2, 64, .inl (fun _ => 0))), (qa_3, .inl (ca_4, 64, .inl (fun _ => 0))), (qa_5, .inl (ca_6, 64, .inl (fun _ => 0))), (qa_7, .inl (ca_8, 64, .inl (fun _ => 0)))] H := hP
  have hD : va_D A [(q_this, .inr (0, [.null, .ref qa_1, .ref qa_3, .ref qa_5, .null, .null, .int 0])), (qa_1, .inl (ca_2, 64, .inl (fun _ => 0))), (qa_3, .inl (ca_4, 64, .inl (fun _ => 0))), (qa_5, .inl (ca_6, 64, .inl (fun _ => 0))), (qa_7, .inl (ca_8, 64, .inl (fun _ => 0)))] := hD
  have hK : va_K (dC, dI) vwCl [(ca_2, .int), (ca_4, .int), (ca_6, .int), (ca_8, .int)] s := hK
  refine va_putF (D := (dC, dI)) (ci := 0) (v := .ref qa_7) (ty := (.array .int)) (C := RBx) (T := TBx) (N := 7) hx hb hB hiBx tBx tBx_ok nBx hown hK hP hD hS 0 rfl rfl 4 (by decide) hL21 (fun _ h9 => h9) rfl hin rfl (by decide +kernel) rfl rfl (Nat.le_of_ble_eq_true rfl) dBx_init_33 (fun H locs hP hD hS => ?_)
  have hP : va_P (dC, dI) vwCl [(q_this, .inr (0, [.null, .ref qa_1, .ref qa_3, .ref qa_5, .ref qa_7, .null, .int 0])), (qa_1, .inl (ca_2, 64, .inl (fun _ => 0))), (qa_3, .inl (ca_4, 64, .inl (fun _ => 0))), (qa_5, .inl (ca_6, 64, .inl (fun _ => 0))), (qa_7, .inl (ca_8, 64, .inl (fun _ => 0)))] H := hP
  have hD : va_D A [(q_this, .inr (0, [.null, .ref qa_1, .ref qa_3, .ref qa_5, .ref qa_7, .null, .int 0])), (qa_1, .inl (ca_2, 64, .inl (fun _ => 0))), (qa_3, .inl (ca_4, 64, .inl (fun _ => 0))), (qa_5, .inl (ca_6, 64, .inl (fun _ => 0))), (qa_7, .inl (ca_8, 64, .inl (fun _ => 0)))] := hD
  have hK : va_K (dC, dI) vwCl [(ca_2, .int), (ca_4, .int), (ca_6, .int), (ca_8, .int)] s := hK
  refine lv_aload_n hx hb dBx_init_36 rfl (lv_at hl 0 rfl) ?_
  refine lv_bipush (v := 64) hx hb dBx_init_37 (by decide) ?_
  refine va_newa (atype := .int) (ty := .int) (N' := 64) (a0 := (64, .inl (fun _ => 0))) hx hb (hB _ bw109) rfl hK hP hD hS hA (fun _ => rfl) (by decide) (by decide) (by decide) (Nat.le_of_ble_eq_true rfl) (Nat.le_of_ble_eq_true rfl) dBx_init_39 (fun qa_9 ca_10 H hK hP hD hS => ?_)
  refine W.widen (k := 5) (n := 320) (by omega) (by omega) ?_
  have hP : va_P (dC, dI) vwCl [(q_this, .inr (0, [.null, .ref qa_1, .ref qa_3, .ref qa_5, .ref qa_7, .null, .int 0])), (qa_1, .inl (ca_2, 64, .inl (fun _ => 0))), (qa_3, .inl (ca_4, 64, .inl (fun _ => 0))), (qa_5, .inl (ca_6, 64, .inl (fun _ => 0))), (qa_7, .inl (ca_8, 64, .inl (fun _ => 0))), (qa_9, .inl (ca_10, 64, .inl (fun _ => 0)))] H := hP
  have hD : va_D A [(q_this, .inr (0, [.null, .ref qa_1, .ref qa_3, .ref qa_5, .ref qa_7, .null, .int 0])), (qa_1, .inl (ca_2, 64, .inl (fun _ => 0))), (qa_3, .inl (ca_4, 64, .inl (fun _ => 0))), (qa_5, .inl (ca_6, 64, .inl (fun _ => 0))), (qa_7, .inl (ca_8, 64, .inl (fun _ => 0))), (qa_9, .inl (ca_10, 64, .inl (fun _ => 0)))] := hD
  have hK : va_K (dC, dI) vwCl [(ca_2, .int), (ca_4, .int), (ca_6, .int), (ca_8, .int), (ca_10, .int)] s := hK
  refine va_putF (D := (dC, dI)) (ci := 0) (v := .ref qa_9) (ty := (.array .int)) (C := RBx) (T := TBx) (N := 7) hx hb hB hiBx tBx tBx_ok nBx hown hK hP hD hS 0 rfl rfl 5 (by decide) hL24 (fun _ h9 => h9) rfl hin rfl (by decide +kernel) rfl rfl (Nat.le_of_ble_eq_true rfl) dBx_init_41 (fun H locs hP hD hS => ?_)
  have hP : va_P (dC, dI) vwCl [(q_this, .inr (0, [.null, .ref qa_1, .ref qa_3, .ref qa_5, .ref qa_7, .ref qa_9, .int 0])), (qa_1, .inl (ca_2, 64, .inl (fun _ => 0))), (qa_3, .inl (ca_4, 64, .inl (fun _ => 0))), (qa_5, .inl (ca_6, 64, .inl (fun _ => 0))), (qa_7, .inl (ca_8, 64, .inl (fun _ => 0))), (qa_9, .inl (ca_10, 64, .inl (fun _ => 0)))] H := hP
  have hD : va_D A [(q_this, .inr (0, [.null, .ref qa_1, .ref qa_3, .ref qa_5, .ref qa_7, .ref qa_9, .int 0])), (qa_1, .inl (ca_2, 64, .inl (fun _ => 0))), (qa_3, .inl (ca_4, 64, .inl (fun _ => 0))), (qa_5, .inl (ca_6, 64, .inl (fun _ => 0))), (qa_7, .inl (ca_8, 64, .inl (fun _ => 0))), (qa_9, .inl (ca_10, 64, .inl (fun _ => 0)))] := hD
  have hK : va_K (dC, dI) vwCl [(ca_2, .int), (ca_4, .int), (ca_6, .int), (ca_8, .int), (ca_10, .int)] s := hK
  refine lv_aload_n hx hb dBx_init_44 rfl (lv_at hl 0 rfl) ?_
  refine lv_iload_n hx hb dBx_init_45 rfl (lv_at hl 1 rfl) ?_
  obtain ⟨h_13, h_14, hv⟩ := hv
  refine va_newa (atype := .int) (ty := .int) (N' := x1.toNatClampNeg) (a0 := (x1.toNatClampNeg, .inl (fun _ => 0))) hx hb (hB _ bw109) rfl hK hP hD hS hA (fun _ => rfl) h_13 rfl (by simp only [componentBytes]; omega) (Nat.le_of_ble_eq_true rfl) (by show 320 + x1.toNatClampNeg ≤ _; exact Nat.le_trans (Nat.add_le_add_left h_14 _) (Nat.le_of_ble_eq_true rfl)) dBx_init_46 (fun qa_11 ca_12 H hK hP hD hS => ?_)
  refine W.widen (k := 6) (n := 896) (by omega) (by omega) ?_
  have hP : va_P (dC, dI) vwCl [(q_this, .inr (0, [.null, .ref qa_1, .ref qa_3, .ref qa_5, .ref qa_7, .ref qa_9, .int 0])), (qa_1, .inl (ca_2, 64, .inl (fun _ => 0))), (qa_3, .inl (ca_4, 64, .inl (fun _ => 0))), (qa_5, .inl (ca_6, 64, .inl (fun _ => 0))), (qa_7, .inl (ca_8, 64, .inl (fun _ => 0))), (qa_9, .inl (ca_10, 64, .inl (fun _ => 0))), (qa_11, .inl (ca_12, x1.toNatClampNeg, .inl (fun _ => 0)))] H := hP
  have hD : va_D A [(q_this, .inr (0, [.null, .ref qa_1, .ref qa_3, .ref qa_5, .ref qa_7, .ref qa_9, .int 0])), (qa_1, .inl (ca_2, 64, .inl (fun _ => 0))), (qa_3, .inl (ca_4, 64, .inl (fun _ => 0))), (qa_5, .inl (ca_6, 64, .inl (fun _ => 0))), (qa_7, .inl (ca_8, 64, .inl (fun _ => 0))), (qa_9, .inl (ca_10, 64, .inl (fun _ => 0))), (qa_11, .inl (ca_12, x1.toNatClampNeg, .inl (fun _ => 0)))] := hD
  have hK : va_K (dC, dI) vwCl [(ca_2, .int), (ca_4, .int), (ca_6, .int), (ca_8, .int), (ca_10, .int), (ca_12, .int)] s := hK
  refine va_putF (D := (dC, dI)) (ci := 0) (v := .ref qa_11) (ty := (.array .int)) (C := RBx) (T := TBx) (N := 7) hx hb hB hiBx tBx tBx_ok nBx hown hK hP hD hS 0 rfl rfl 0 (by decide) hL27 (fun _ h9 => h9) rfl hin rfl (by decide +kernel) rfl rfl (Nat.le_of_ble_eq_true rfl) dBx_init_48 (fun H locs hP hD hS => ?_)
  have hP : va_P (dC, dI) vwCl [(q_this, .inr (0, [.ref qa_11, .ref qa_1, .ref qa_3, .ref qa_5, .ref qa_7, .ref qa_9, .int 0])), (qa_1, .inl (ca_2, 64, .inl (fun _ => 0))), (qa_3, .inl (ca_4, 64, .inl (fun _ => 0))), (qa_5, .inl (ca_6, 64, .inl (fun _ => 0))), (qa_7, .inl (ca_8, 64, .inl (fun _ => 0))), (qa_9, .inl (ca_10, 64, .inl (fun _ => 0))), (qa_11, .inl (ca_12, x1.toNatClampNeg, .inl (fun _ => 0)))] H := hP
  have hD : va_D A [(q_this, .inr (0, [.ref qa_11, .ref qa_1, .ref qa_3, .ref qa_5, .ref qa_7, .ref qa_9, .int 0])), (qa_1, .inl (ca_2, 64, .inl (fun _ => 0))), (qa_3, .inl (ca_4, 64, .inl (fun _ => 0))), (qa_5, .inl (ca_6, 64, .inl (fun _ => 0))), (qa_7, .inl (ca_8, 64, .inl (fun _ => 0))), (qa_9, .inl (ca_10, 64, .inl (fun _ => 0))), (qa_11, .inl (ca_12, x1.toNatClampNeg, .inl (fun _ => 0)))] := hD
  have hK : va_K (dC, dI) vwCl [(ca_2, .int), (ca_4, .int), (ca_6, .int), (ca_8, .int), (ca_10, .int), (ca_12, .int)] s := hK
  refine lv_aload_n hx hb dBx_init_51 rfl (lv_at hl 0 rfl) ?_
  refine lv_iconst (v := 0) hx hb dBx_init_52 (by decide) ?_
  refine va_put (D := (dC, dI)) (ci := 0) (v := .int 0) (ty := .int) (C := RBx) (T := TBx) (N := 7) hx hb hB hiBx tBx tBx_ok nBx hown hK hP hD hS 0 rfl rfl 6 (by decide) hL30 (fun _ h9 => h9) rfl (by decide +kernel) rfl rfl (Nat.le_of_ble_eq_true rfl) dBx_init_53 (fun H locs hP hD hS => ?_)
  have hP : va_P (dC, dI) vwCl [(q_this, .inr (0, [.ref qa_11, .ref qa_1, .ref qa_3, .ref qa_5, .ref qa_7, .ref qa_9, .int 0])), (qa_1, .inl (ca_2, 64, .inl (fun _ => 0))), (qa_3, .inl (ca_4, 64, .inl (fun _ => 0))), (qa_5, .inl (ca_6, 64, .inl (fun _ => 0))), (qa_7, .inl (ca_8, 64, .inl (fun _ => 0))), (qa_9, .inl (ca_10, 64, .inl (fun _ => 0))), (qa_11, .inl (ca_12, x1.toNatClampNeg, .inl (fun _ => 0)))] H := hP
  have hD : va_D A [(q_this, .inr (0, [.ref qa_11, .ref qa_1, .ref qa_3, .ref qa_5, .ref qa_7, .ref qa_9, .int 0])), (qa_1, .inl (ca_2, 64, .inl (fun _ => 0))), (qa_3, .inl (ca_4, 64, .inl (fun _ => 0))), (qa_5, .inl (ca_6, 64, .inl (fun _ => 0))), (qa_7, .inl (ca_8, 64, .inl (fun _ => 0))), (qa_9, .inl (ca_10, 64, .inl (fun _ => 0))), (qa_11, .inl (ca_12, x1.toNatClampNeg, .inl (fun _ => 0)))] := hD
  have hK : va_K (dC, dI) vwCl [(ca_2, .int), (ca_4, .int), (ca_6, .int), (ca_8, .int), (ca_10, .int), (ca_12, .int)] s := hK
  have hP9 := hP.sub (ws' := [(q_this, .inr (0, [.ref qa_11, .ref qa_1, .ref qa_3, .ref qa_5, .ref qa_7, .ref qa_9, .int 0])), (qa_11, .inl (ca_12, x1.toNatClampNeg, .inl (fun _ => 0))), (qa_1, .inl (ca_2, 64, .inl (fun _ => 0))), (qa_3, .inl (ca_4, 64, .inl (fun _ => 0))), (qa_5, .inl (ca_6, 64, .inl (fun _ => 0))), (qa_7, .inl (ca_8, 64, .inl (fun _ => 0))), (qa_9, .inl (ca_10, 64, .inl (fun _ => 0)))]) [0, 6, 1, 2, 3, 4, 5] rfl
  have hD9 := hD.sub (ws' := [(q_this, .inr (0, [.ref qa_11, .ref qa_1, .ref qa_3, .ref qa_5, .ref qa_7, .ref qa_9, .int 0])), (qa_11, .inl (ca_12, x1.toNatClampNeg, .inl (fun _ => 0))), (qa_1, .inl (ca_2, 64, .inl (fun _ => 0))), (qa_3, .inl (ca_4, 64, .inl (fun _ => 0))), (qa_5, .inl (ca_6, 64, .inl (fun _ => 0))), (qa_7, .inl (ca_8, 64, .inl (fun _ => 0))), (qa_9, .inl (ca_10, 64, .inl (fun _ => 0)))]) [0, 6, 1, 2, 3, 4, 5] (by decide) rfl
  have hK9 := hK.sub (tys' := [(ca_12, .int), (ca_2, .int), (ca_4, .int), (ca_6, .int), (ca_8, .int), (ca_10, .int)]) [5, 0, 1, 2, 3, 4] rfl
  exact W.vret hx hb hr (fun t ht hW => ⟨⟨(qa_11, qa_1, qa_3, qa_5, qa_7, qa_9, ca_12, ca_2, ca_4, ca_6, ca_8, ca_10, x1.toNatClampNeg, 64, 64, 64, 64, 64, 0), rfl, hv, by rw [ht]; exact hP9, va_K.moved hW.alike hK9, hD9⟩, hS.F ht⟩) hS.2.2 dBx_init_56
