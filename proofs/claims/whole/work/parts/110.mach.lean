abbrev wdMd_arrange (q_this q_palette q_takers q_order q_before r_samples r_isGiven r_gives r_colours r_many r_group r_row r_channelOf r_spreads r_boxMany r_there r_groupMany r_means r_sums r_has r_takenSums r_roundSums r_carried : Nat) (c_palette c_takers c_order c_before : ClassId) (n_palette n_takers n_order n_before : Nat) (f_thrown : Int32) (f_width : Int32) (f_height : Int32) (f_different : Int32) (f_groups : Int32) (f_rowSize : Int32) (f_ready : Int32) (f_size : Int32) (f_rounds : Int32) (f_palette : Nat → Int32) (f_takers : Nat → Int32) (f_order : Nat → Int32) (f_before : Nat → Int32) : va_W := [(q_this, .inr (8, [.int f_thrown, .int f_width, .int f_height, .ref r_samples, .ref r_isGiven, .ref r_gives, .int f_different, .ref r_colours, .ref r_many, .ref r_group, .int f_groups, .ref r_row, .int f_rowSize, .ref r_channelOf, .ref r_spreads, .ref r_boxMany, .ref r_there, .ref r_groupMany, .ref r_means, .ref r_sums, .int f_ready, .int f_size, .ref q_palette, .ref r_has, .ref q_takers, .ref r_takenSums, .ref q_order, .ref q_before, .int f_rounds, .ref r_roundSums, .ref r_carried])), (q_palette, .inl (c_palette, n_palette, .inl f_palette)), (q_takers, .inl (c_takers, n_takers, .inl f_takers)), (q_order, .inl (c_order, n_order, .inl f_order)), (q_before, .inl (c_before, n_before, .inl f_before))]
set_option maxHeartbeats 4000000 in
set_option maxRecDepth 100000 in
theorem metMd_arrange (l : Launch) (dC : Nat → ClassId) (dI : Nat → Nat → Nat) (q_this q_palette q_takers q_order q_before r_samples r_isGiven r_gives r_colours r_many r_group r_row r_channelOf r_spreads r_boxMany r_there r_groupMany r_means r_sums r_has r_takenSums r_roundSums r_carried : Nat) (c_palette c_takers c_order c_before : ClassId) (n_palette n_takers n_order n_before : Nat) (sz : Nat) (f_thrown : Int32) (f_width : Int32) (f_height : Int32) (f_different : Int32) (f_groups : Int32) (f_rowSize : Int32) (f_ready : Int32) (f_size : Int32) (f_rounds : Int32) (f_palette : Nat → Int32) (f_takers : Nat → Int32) (f_order : Nat → Int32) (f_before : Nat → Int32) {post : (Nat → Int32) → (Nat → Int32) → (Nat → Int32) → Prop} (hw : wpMd_arrange n_palette n_takers n_order n_before f_thrown f_width f_height f_different f_groups f_rowSize f_ready f_size f_rounds f_palette f_takers f_order f_before post) : Met l yMd_arrange (.code yMd_arrange bMd_arrange 3 none :: BIG) ({ frames := 1, cells := 0, slots := 0, locals := 24 }) (va_Pc [.ref q_this] (gx_pre (dC, dI) vwCl (wdMd_arrange q_this q_palette q_takers q_order q_before r_samples r_isGiven r_gives r_colours r_many r_group r_row r_channelOf r_spreads r_boxMany r_there r_groupMany r_means r_sums r_has r_takenSums r_roundSums r_carried c_palette c_takers c_order c_before n_palette n_takers n_order n_before f_thrown f_width f_height f_different f_groups f_rowSize f_ready f_size f_rounds f_palette f_takers f_order f_before) [(c_palette, .int), (c_takers, .int), (c_order, .int), (c_before, .int)] sz)) (va_Qv (fun (u : (Nat → Int32) × (Nat → Int32) × (Nat → Int32)) => post u.1 u.2.1 u.2.2) (gx_B (dC, dI) vwCl (va_A (wdMd_arrange q_this q_palette q_takers q_order q_before r_samples r_isGiven r_gives r_colours r_many r_group r_row r_channelOf r_spreads r_boxMany r_there r_groupMany r_means r_sums r_has r_takenSums r_roundSums r_carried c_palette c_takers c_order c_before n_palette n_takers n_order n_before f_thrown f_width f_height f_different f_groups f_rowSize f_ready f_size f_rounds f_palette f_takers f_order f_before) sz) (fun (u : (Nat → Int32) × (Nat → Int32) × (Nat → Int32)) => (wdMd_arrange q_this q_palette q_takers q_order q_before r_samples r_isGiven r_gives r_colours r_many r_group r_row r_channelOf r_spreads r_boxMany r_there r_groupMany r_means r_sums r_has r_takenSums r_roundSums r_carried c_palette c_takers c_order c_before n_palette n_takers n_order n_before f_thrown f_width f_height f_different f_groups f_rowSize f_ready f_size f_rounds u.1 f_takers u.2.1 u.2.2))) (va_A (wdMd_arrange q_this q_palette q_takers q_order q_before r_samples r_isGiven r_gives r_colours r_many r_group r_row r_channelOf r_spreads r_boxMany r_there r_groupMany r_means r_sums r_has r_takenSums r_roundSums r_carried c_palette c_takers c_order c_before n_palette n_takers n_order n_before f_thrown f_width f_height f_different f_groups f_rowSize f_ready f_size f_rounds f_palette f_takers f_order f_before) sz)) 0 0 (va_A (wdMd_arrange q_this q_palette q_takers q_order q_before r_samples r_isGiven r_gives r_colours r_many r_group r_row r_channelOf r_spreads r_boxMany r_there r_groupMany r_means r_sums r_has r_takenSums r_roundSums r_carried c_palette c_takers c_order c_before n_palette n_takers n_order n_before f_thrown f_width f_height f_different f_groups f_rowSize f_ready f_size f_rounds f_palette f_takers f_order f_before) sz) := by
  refine Met.ofW (cc := bMd_arrange) (maxL := 3) (ret := none) (by decide) rfl ?_
  intro p e s m args below meth c s₁ B hml hv
  obtain ⟨rfl, hsz, hP, hK, hD0, hZ⟩ := hv
  have hx := B.exec
  have hb := B.bytes
  have hr := B.returns
  have hts := atoms_spec (ws := (.code yMd_arrange bMd_arrange 3 none :: BIG)) B.pre
  have hB : ∀ w ∈ BIG, w.before _ s = true := fun w h => hts w (List.mem_cons_of_mem _ h)
  have hown : s.vm.findClass RMd = some m.cls := findClass_of_methodNamed B.named
  have hlocks := B.notSynchronized
  subst hsz
  have hD := hD0.self (sz := s.heap.size)
  generalize hAe : va_A (wdMd_arrange q_this q_palette q_takers q_order q_before r_samples r_isGiven r_gives r_colours r_many r_group r_row r_channelOf r_spreads r_boxMany r_there r_groupMany r_means r_sums r_has r_takenSums r_roundSums r_carried c_palette c_takers c_order c_before n_palette n_takers n_order n_before f_thrown f_width f_height f_different f_groups f_rowSize f_ready f_size f_rounds f_palette f_takers f_order f_before) s.heap.size = A at hD hZ ⊢
  have hA : ∀ q : Nat, s.heap.size ≤ q → A q := fun q h => by rw [← hAe]; exact Or.inr h
  have hS : va_S A s.heap s.heap [] := va_S.rf
  have hl := lv_entry ([.ref q_this]) (n := 3) (Nat.le_of_ble_eq_true rfl)
  rw [lg_entry_eq]
  generalize (lg_sl ([.ref q_this]) ++ List.replicate (3 - (lg_sl ([.ref q_this])).length) Slot.unset).toArray = ls at hl ⊢
  have hl : lv_has ls 3 [(0, .ref q_this)] := hl
  have hL54 := (hB _ bw637)
  have hL60 := (hB _ bw639)
  have hL66 := (hB _ bw641)
  have hL69 := (hB _ bw642)
  have hL158 := (hB _ bw636)
  refine gx_abs (fun G eG => ?_)
  obtain ⟨K2, eK2⟩ : ∃ K : Int32 → (Nat → Int32) → (Nat → Int32) → (Nat → Int32) → Prop, K = fun v1 f_palette f_order f_before => ∀ (H : Heap) (locs : List Loc) (ls : Array Slot), va_P (dC, dI) vwCl (wdMd_arrange q_this q_palette q_takers q_order q_before r_samples r_isGiven r_gives r_colours r_many r_group r_row r_channelOf r_spreads r_boxMany r_there r_groupMany r_means r_sums r_has r_takenSums r_roundSums r_carried c_palette c_takers c_order c_before n_palette n_takers n_order n_before f_thrown f_width f_height f_different f_groups f_rowSize f_ready f_size f_rounds f_palette f_takers f_order f_before) H → va_D A (wdMd_arrange q_this q_palette q_takers q_order q_before r_samples r_isGiven r_gives r_colours r_many r_group r_row r_channelOf r_spreads r_boxMany r_there r_groupMany r_means r_sums r_has r_takenSums r_roundSums r_carried c_palette c_takers c_order c_before n_palette n_takers n_order n_before f_thrown f_width f_height f_different f_groups f_rowSize f_ready f_size f_rounds f_palette f_takers f_order f_before) → va_S A s.heap H locs → lv_has ls 3 [(0, .ref q_this), (1, .int v1)] → G H locs 0 0 (F0 m 2 ls []) := ⟨_, rfl⟩
  obtain ⟨K12, eK12⟩ : ∃ K : Int32 → Int32 → (Nat → Int32) → (Nat → Int32) → (Nat → Int32) → Prop, K = fun v1 v2 f_palette f_order f_before => ∀ (H : Heap) (locs : List Loc) (ls : Array Slot), va_P (dC, dI) vwCl (wdMd_arrange q_this q_palette q_takers q_order q_before r_samples r_isGiven r_gives r_colours r_many r_group r_row r_channelOf r_spreads r_boxMany r_there r_groupMany r_means r_sums r_has r_takenSums r_roundSums r_carried c_palette c_takers c_order c_before n_palette n_takers n_order n_before f_thrown f_width f_height f_different f_groups f_rowSize f_ready f_size f_rounds f_palette f_takers f_order f_before) H → va_D A (wdMd_arrange q_this q_palette q_takers q_order q_before r_samples r_isGiven r_gives r_colours r_many r_group r_row r_channelOf r_spreads r_boxMany r_there r_groupMany r_means r_sums r_has r_takenSums r_roundSums r_carried c_palette c_takers c_order c_before n_palette n_takers n_order n_before f_thrown f_width f_height f_different f_groups f_rowSize f_ready f_size f_rounds f_palette f_takers f_order f_before) → va_S A s.heap H locs → lv_has ls 3 [(0, .ref q_this), (1, .int v1), (2, .int v2)] → G H locs 0 0 (F0 m 12 ls []) := ⟨_, rfl⟩
  obtain ⟨K122, eK122⟩ : ∃ K : Int32 → (Nat → Int32) → (Nat → Int32) → (Nat → Int32) → Prop, K = fun v1 f_palette f_order f_before => ∀ (H : Heap) (locs : List Loc) (ls : Array Slot), va_P (dC, dI) vwCl (wdMd_arrange q_this q_palette q_takers q_order q_before r_samples r_isGiven r_gives r_colours r_many r_group r_row r_channelOf r_spreads r_boxMany r_there r_groupMany r_means r_sums r_has r_takenSums r_roundSums r_carried c_palette c_takers c_order c_before n_palette n_takers n_order n_before f_thrown f_width f_height f_different f_groups f_rowSize f_ready f_size f_rounds f_palette f_takers f_order f_before) H → va_D A (wdMd_arrange q_this q_palette q_takers q_order q_before r_samples r_isGiven r_gives r_colours r_many r_group r_row r_channelOf r_spreads r_boxMany r_there r_groupMany r_means r_sums r_has r_takenSums r_roundSums r_carried c_palette c_takers c_order c_before n_palette n_takers n_order n_before f_thrown f_width f_height f_different f_groups f_rowSize f_ready f_size f_rounds f_palette f_takers f_order f_before) → va_S A s.heap H locs → lv_has ls 3 [(0, .ref q_this), (1, .int v1)] → G H locs 0 0 (F0 m 122 ls []) := ⟨_, rfl⟩
  obtain ⟨K155, eK155⟩ : ∃ K : Int32 → (Nat → Int32) → (Nat → Int32) → (Nat → Int32) → Prop, K = fun v1 f_palette f_order f_before => ∀ (H : Heap) (locs : List Loc) (ls : Array Slot), va_P (dC, dI) vwCl (wdMd_arrange q_this q_palette q_takers q_order q_before r_samples r_isGiven r_gives r_colours r_many r_group r_row r_channelOf r_spreads r_boxMany r_there r_groupMany r_means r_sums r_has r_takenSums r_roundSums r_carried c_palette c_takers c_order c_before n_palette n_takers n_order n_before f_thrown f_width f_height f_different f_groups f_rowSize f_ready f_size f_rounds f_palette f_takers f_order f_before) H → va_D A (wdMd_arrange q_this q_palette q_takers q_order q_before r_samples r_isGiven r_gives r_colours r_many r_group r_row r_channelOf r_spreads r_boxMany r_there r_groupMany r_means r_sums r_has r_takenSums r_roundSums r_carried c_palette c_takers c_order c_before n_palette n_takers n_order n_before f_thrown f_width f_height f_different f_groups f_rowSize f_ready f_size f_rounds f_palette f_takers f_order f_before) → va_S A s.heap H locs → lv_has ls 3 [(0, .ref q_this), (1, .int v1)] → G H locs 0 0 (F0 m 155 ls []) := ⟨_, rfl⟩
  have j107 : ∀ (v1 : Int32) (v2 : Int32) (f_palette : Nat → Int32) (f_order : Nat → Int32) (f_before : Nat → Int32), vcMd_arrange_107 n_palette n_takers n_order n_before f_thrown f_width f_height f_different f_groups f_rowSize f_ready f_size f_rounds f_takers K2 K12 K122 K155 post v1 v2 f_palette f_order f_before → ∀ (H : Heap) (locs : List Loc) (ls : Array Slot), va_P (dC, dI) vwCl (wdMd_arrange q_this q_palette q_takers q_order q_before r_samples r_isGiven r_gives r_colours r_many r_group r_row r_channelOf r_spreads r_boxMany r_there r_groupMany r_means r_sums r_has r_takenSums r_roundSums r_carried c_palette c_takers c_order c_before n_palette n_takers n_order n_before f_thrown f_width f_height f_different f_groups f_rowSize f_ready f_size f_rounds f_palette f_takers f_order f_before) H → va_D A (wdMd_arrange q_this q_palette q_takers q_order q_before r_samples r_isGiven r_gives r_colours r_many r_group r_row r_channelOf r_spreads r_boxMany r_there r_groupMany r_means r_sums r_has r_takenSums r_roundSums r_carried c_palette c_takers c_order c_before n_palette n_takers n_order n_before f_thrown f_width f_height f_different f_groups f_rowSize f_ready f_size f_rounds f_palette f_takers f_order f_before) → va_S A s.heap H locs → lv_has ls 3 [(0, .ref q_this), (1, .int v1), (2, .int v2)] → G H locs 0 0 (F0 m 107 ls []) := by
    intro v1 v2 f_palette f_order f_before hv H locs ls hP hD hS hl
    rw [eG]
    unfold vcMd_arrange_107 at hv
    refine lv_aload_n hx hb dMd_arrange_107 rfl (lv_at hl 0 rfl) ?_
    refine va_get (D := (dC, dI)) (ci := 8) (v := .ref q_order) (C := RMd) (T := TMd) (N := 31) hx hb hB hiMd hown hK hP 0 rfl rfl 26 (by decide) hL66 (fun _ h9 => h9) rfl dMd_arrange_108 ?_
    refine lv_iload_n hx hb dMd_arrange_111 rfl (lv_at hl 2 rfl) ?_
    refine lv_iload_n hx hb dMd_arrange_112 rfl (lv_at hl 1 rfl) ?_
    obtain ⟨h_1, hv⟩ := hv
    refine va_iast hx hb hK hP hD hS 3 2 rfl rfl h_1 dMd_arrange_113 (fun H locs hP hD hS => ?_)
    have hP : va_P (dC, dI) vwCl (wdMd_arrange q_this q_palette q_takers q_order q_before r_samples r_isGiven r_gives r_colours r_many r_group r_row r_channelOf r_spreads r_boxMany r_there r_groupMany r_means r_sums r_has r_takenSums r_roundSums r_carried c_palette c_takers c_order c_before n_palette n_takers n_order n_before f_thrown f_width f_height f_different f_groups f_rowSize f_ready f_size f_rounds f_palette f_takers (upd f_order v2.toNatClampNeg v1) f_before) H := hP
    have hD : va_D A (wdMd_arrange q_this q_palette q_takers q_order q_before r_samples r_isGiven r_gives r_colours r_many r_group r_row r_channelOf r_spreads r_boxMany r_there r_groupMany r_means r_sums r_has r_takenSums r_roundSums r_carried c_palette c_takers c_order c_before n_palette n_takers n_order n_before f_thrown f_width f_height f_different f_groups f_rowSize f_ready f_size f_rounds f_palette f_takers (upd f_order v2.toNatClampNeg v1) f_before) := hD
    refine lv_iinc (v := v1 + 1) (lv' := [(1, .int (v1 + 1)), (0, .ref q_this), (2, .int v2)]) hx hb dMd_arrange_114 hl (k := 1) rfl rfl (by decide) rfl (fun ls hl => ?_)
    refine lv_goto (tgt := 2) hx hb dMd_arrange_117 (by decide) ?_
    rw [eK2, eG] at hv
    exact hv _ _ _ hP hD hS (lv_sub hl [1, 0] rfl)
  rw [eG] at j107
  have j87 : ∀ (v1 : Int32) (v2 : Int32) (f_palette : Nat → Int32) (f_order : Nat → Int32) (f_before : Nat → Int32), vcMd_arrange_87 n_palette n_takers n_order n_before f_thrown f_width f_height f_different f_groups f_rowSize f_ready f_size f_rounds f_takers K2 K12 K122 K155 post v1 v2 f_palette f_order f_before → ∀ (H : Heap) (locs : List Loc) (ls : Array Slot), va_P (dC, dI) vwCl (wdMd_arrange q_this q_palette q_takers q_order q_before r_samples r_isGiven r_gives r_colours r_many r_group r_row r_channelOf r_spreads r_boxMany r_there r_groupMany r_means r_sums r_has r_takenSums r_roundSums r_carried c_palette c_takers c_order c_before n_palette n_takers n_order n_before f_thrown f_width f_height f_different f_groups f_rowSize f_ready f_size f_rounds f_palette f_takers f_order f_before) H → va_D A (wdMd_arrange q_this q_palette q_takers q_order q_before r_samples r_isGiven r_gives r_colours r_many r_group r_row r_channelOf r_spreads r_boxMany r_there r_groupMany r_means r_sums r_has r_takenSums r_roundSums r_carried c_palette c_takers c_order c_before n_palette n_takers n_order n_before f_thrown f_width f_height f_different f_groups f_rowSize f_ready f_size f_rounds f_palette f_takers f_order f_before) → va_S A s.heap H locs → lv_has ls 3 [(0, .ref q_this), (1, .int v1), (2, .int v2)] → G H locs 0 0 (F0 m 87 ls []) := by
    intro v1 v2 f_palette f_order f_before hv H locs ls hP hD hS hl
    rw [eG]
    unfold vcMd_arrange_87 at hv
    refine lv_aload_n hx hb dMd_arrange_87 rfl (lv_at hl 0 rfl) ?_
    refine va_get (D := (dC, dI)) (ci := 8) (v := .ref q_order) (C := RMd) (T := TMd) (N := 31) hx hb hB hiMd hown hK hP 0 rfl rfl 26 (by decide) hL66 (fun _ h9 => h9) rfl dMd_arrange_88 ?_
    refine lv_iload_n hx hb dMd_arrange_91 rfl (lv_at hl 2 rfl) ?_
    refine lv_aload_n hx hb dMd_arrange_92 rfl (lv_at hl 0 rfl) ?_
    refine va_get (D := (dC, dI)) (ci := 8) (v := .ref q_order) (C := RMd) (T := TMd) (N := 31) hx hb hB hiMd hown hK hP 0 rfl rfl 26 (by decide) hL66 (fun _ h9 => h9) rfl dMd_arrange_93 ?_
    refine lv_iload_n hx hb dMd_arrange_96 rfl (lv_at hl 2 rfl) ?_
    refine lv_iconst (v := 1) hx hb dMd_arrange_97 (by decide) ?_
    refine lv_isub hx hb dMd_arrange_98 ?_
    obtain ⟨h_3, hv⟩ := hv
    refine va_iald hx hb hK hP 3 2 rfl rfl h_3 dMd_arrange_99 ?_
    obtain ⟨h_4, hv⟩ := hv
    refine va_iast hx hb hK hP hD hS 3 2 rfl rfl h_4 dMd_arrange_100 (fun H locs hP hD hS => ?_)
    have hP : va_P (dC, dI) vwCl (wdMd_arrange q_this q_palette q_takers q_order q_before r_samples r_isGiven r_gives r_colours r_many r_group r_row r_channelOf r_spreads r_boxMany r_there r_groupMany r_means r_sums r_has r_takenSums r_roundSums r_carried c_palette c_takers c_order c_before n_palette n_takers n_order n_before f_thrown f_width f_height f_different f_groups f_rowSize f_ready f_size f_rounds f_palette f_takers (upd f_order v2.toNatClampNeg (f_order (v2 - 1).toNatClampNeg)) f_before) H := hP
    have hD : va_D A (wdMd_arrange q_this q_palette q_takers q_order q_before r_samples r_isGiven r_gives r_colours r_many r_group r_row r_channelOf r_spreads r_boxMany r_there r_groupMany r_means r_sums r_has r_takenSums r_roundSums r_carried c_palette c_takers c_order c_before n_palette n_takers n_order n_before f_thrown f_width f_height f_different f_groups f_rowSize f_ready f_size f_rounds f_palette f_takers (upd f_order v2.toNatClampNeg (f_order (v2 - 1).toNatClampNeg)) f_before) := hD
    refine lv_iinc (v := v2 + (-1)) (lv' := [(2, .int (v2 + (-1))), (0, .ref q_this), (1, .int v1)]) hx hb dMd_arrange_101 hl (k := 2) rfl rfl (by decide) rfl (fun ls hl => ?_)
    refine lv_goto (tgt := 12) hx hb dMd_arrange_104 (by decide) ?_
    rw [eK12, eG] at hv
    exact hv _ _ _ hP hD hS (lv_sub hl [1, 2, 0] rfl)
  rw [eG] at j87
  unfold wpMd_arrange at hw
  have hv := hw K2 K12 K122 K155
  have hv := hv (by
    intro v1 f_palette f_order f_before hv
    rw [eK2]
    intro H locs ls hP hD hS hl
    rw [eG]
    unfold vcMd_arrange_2 at hv
    refine lv_iload_n hx hb dMd_arrange_2 rfl (lv_at hl 1 rfl) ?_
    refine lv_aload_n hx hb dMd_arrange_3 rfl (lv_at hl 0 rfl) ?_
    refine va_get (D := (dC, dI)) (ci := 8) (v := .int f_size) (C := RMd) (T := TMd) (N := 31) hx hb hB hiMd hown hK hP 0 rfl rfl 21 (by decide) hL158 (fun _ h9 => h9) rfl dMd_arrange_4 ?_
    refine lv_icmp_ge (tgt := 120) hx hb dMd_arrange_7 (by decide) (fun c_6 => ?_) (fun c_6 => ?_)
    · have hv := hv.1 c_6
      refine lv_iconst (v := 0) hx hb dMd_arrange_120 (by decide) ?_
      refine lv_istore_n (lv' := [(1, .int 0), (0, .ref q_this)]) hx hb dMd_arrange_121 rfl hl (by decide) rfl (fun ls hl => ?_)
      rw [eK122, eG] at hv
      exact hv _ _ _ hP hD hS (lv_sub hl [1, 0] rfl)
    · have hv := hv.2 c_6
      refine lv_iload_n hx hb dMd_arrange_10 rfl (lv_at hl 1 rfl) ?_
      refine lv_istore_n (lv' := [(2, .int v1), (0, .ref q_this), (1, .int v1)]) hx hb dMd_arrange_11 rfl hl (by decide) rfl (fun ls hl => ?_)
      rw [eK12, eG] at hv
      exact hv _ _ _ hP hD hS (lv_sub hl [1, 2, 0] rfl))
  have hv := hv (by
    intro v1 v2 f_palette f_order f_before hv
    rw [eK12]
    intro H locs ls hP hD hS hl
    rw [eG]
    unfold vcMd_arrange_12 at hv
    refine lv_iload_n hx hb dMd_arrange_12 rfl (lv_at hl 2 rfl) ?_
    refine lv_if_le (tgt := 107) hx hb dMd_arrange_13 (by decide) (fun c_7 => ?_) (fun c_7 => ?_)
    · have hv := hv.1 c_7
      exact j107 v1 v2 f_palette f_order f_before hv _ _ _ hP hD hS (lv_sub hl [0, 1, 2] rfl)
    · have hv := hv.2 c_7
      refine lv_aload_n hx hb dMd_arrange_16 rfl (lv_at hl 0 rfl) ?_
      refine va_get (D := (dC, dI)) (ci := 8) (v := .ref q_takers) (C := RMd) (T := TMd) (N := 31) hx hb hB hiMd hown hK hP 0 rfl rfl 24 (by decide) hL60 (fun _ h9 => h9) rfl dMd_arrange_17 ?_
      refine lv_iload_n hx hb dMd_arrange_20 rfl (lv_at hl 1 rfl) ?_
      obtain ⟨h_8, hv⟩ := hv
      refine va_iald hx hb hK hP 2 1 rfl rfl h_8 dMd_arrange_21 ?_
      refine lv_aload_n hx hb dMd_arrange_22 rfl (lv_at hl 0 rfl) ?_
      refine va_get (D := (dC, dI)) (ci := 8) (v := .ref q_takers) (C := RMd) (T := TMd) (N := 31) hx hb hB hiMd hown hK hP 0 rfl rfl 24 (by decide) hL60 (fun _ h9 => h9) rfl dMd_arrange_23 ?_
      refine lv_aload_n hx hb dMd_arrange_26 rfl (lv_at hl 0 rfl) ?_
      refine va_get (D := (dC, dI)) (ci := 8) (v := .ref q_order) (C := RMd) (T := TMd) (N := 31) hx hb hB hiMd hown hK hP 0 rfl rfl 26 (by decide) hL66 (fun _ h9 => h9) rfl dMd_arrange_27 ?_
      refine lv_iload_n hx hb dMd_arrange_30 rfl (lv_at hl 2 rfl) ?_
      refine lv_iconst (v := 1) hx hb dMd_arrange_31 (by decide) ?_
      refine lv_isub hx hb dMd_arrange_32 ?_
      obtain ⟨h_9, hv⟩ := hv
      refine va_iald hx hb hK hP 3 2 rfl rfl h_9 dMd_arrange_33 ?_
      obtain ⟨h_10, hv⟩ := hv
      refine va_iald hx hb hK hP 2 1 rfl rfl h_10 dMd_arrange_34 ?_
      refine lv_icmp_gt (tgt := 87) hx hb dMd_arrange_35 (by decide) (fun c_11 => ?_) (fun c_11 => ?_)
      · have hv := hv.1 c_11
        exact j87 v1 v2 f_palette f_order f_before hv _ _ _ hP hD hS (lv_sub hl [0, 1, 2] rfl)
      · have hv := hv.2 c_11
        refine lv_aload_n hx hb dMd_arrange_38 rfl (lv_at hl 0 rfl) ?_
        refine va_get (D := (dC, dI)) (ci := 8) (v := .ref q_takers) (C := RMd) (T := TMd) (N := 31) hx hb hB hiMd hown hK hP 0 rfl rfl 24 (by decide) hL60 (fun _ h9 => h9) rfl dMd_arrange_39 ?_
        refine lv_iload_n hx hb dMd_arrange_42 rfl (lv_at hl 1 rfl) ?_
        obtain ⟨h_12, hv⟩ := hv
        refine va_iald hx hb hK hP 2 1 rfl rfl h_12 dMd_arrange_43 ?_
        refine lv_aload_n hx hb dMd_arrange_44 rfl (lv_at hl 0 rfl) ?_
        refine va_get (D := (dC, dI)) (ci := 8) (v := .ref q_takers) (C := RMd) (T := TMd) (N := 31) hx hb hB hiMd hown hK hP 0 rfl rfl 24 (by decide) hL60 (fun _ h9 => h9) rfl dMd_arrange_45 ?_
        refine lv_aload_n hx hb dMd_arrange_48 rfl (lv_at hl 0 rfl) ?_
        refine va_get (D := (dC, dI)) (ci := 8) (v := .ref q_order) (C := RMd) (T := TMd) (N := 31) hx hb hB hiMd hown hK hP 0 rfl rfl 26 (by decide) hL66 (fun _ h9 => h9) rfl dMd_arrange_49 ?_
        refine lv_iload_n hx hb dMd_arrange_52 rfl (lv_at hl 2 rfl) ?_
        refine lv_iconst (v := 1) hx hb dMd_arrange_53 (by decide) ?_
        refine lv_isub hx hb dMd_arrange_54 ?_
        obtain ⟨h_13, hv⟩ := hv
        refine va_iald hx hb hK hP 3 2 rfl rfl h_13 dMd_arrange_55 ?_
        obtain ⟨h_14, hv⟩ := hv
        refine va_iald hx hb hK hP 2 1 rfl rfl h_14 dMd_arrange_56 ?_
        refine lv_icmp_ne (tgt := 107) hx hb dMd_arrange_57 (by decide) (fun c_15 => ?_) (fun c_15 => ?_)
        · have hv := hv.1 c_15
          exact j107 v1 v2 f_palette f_order f_before hv _ _ _ hP hD hS (lv_sub hl [0, 1, 2] rfl)
        · have hv := hv.2 c_15
          refine lv_aload_n hx hb dMd_arrange_60 rfl (lv_at hl 0 rfl) ?_
          refine va_get (D := (dC, dI)) (ci := 8) (v := .ref q_palette) (C := RMd) (T := TMd) (N := 31) hx hb hB hiMd hown hK hP 0 rfl rfl 22 (by decide) hL54 (fun _ h9 => h9) rfl dMd_arrange_61 ?_
          refine lv_iconst (v := 4) hx hb dMd_arrange_64 (by decide) ?_
          refine lv_iload_n hx hb dMd_arrange_65 rfl (lv_at hl 1 rfl) ?_
          refine lv_imul hx hb dMd_arrange_66 ?_
          refine lv_aload_n hx hb dMd_arrange_67 rfl (lv_at hl 0 rfl) ?_
          refine va_get (D := (dC, dI)) (ci := 8) (v := .ref q_palette) (C := RMd) (T := TMd) (N := 31) hx hb hB hiMd hown hK hP 0 rfl rfl 22 (by decide) hL54 (fun _ h9 => h9) rfl dMd_arrange_68 ?_
          refine lv_iconst (v := 4) hx hb dMd_arrange_71 (by decide) ?_
          refine lv_aload_n hx hb dMd_arrange_72 rfl (lv_at hl 0 rfl) ?_
          refine va_get (D := (dC, dI)) (ci := 8) (v := .ref q_order) (C := RMd) (T := TMd) (N := 31) hx hb hB hiMd hown hK hP 0 rfl rfl 26 (by decide) hL66 (fun _ h9 => h9) rfl dMd_arrange_73 ?_
          refine lv_iload_n hx hb dMd_arrange_76 rfl (lv_at hl 2 rfl) ?_
          refine lv_iconst (v := 1) hx hb dMd_arrange_77 (by decide) ?_
          refine lv_isub hx hb dMd_arrange_78 ?_
          obtain ⟨h_16, hv⟩ := hv
          refine va_iald hx hb hK hP 3 2 rfl rfl h_16 dMd_arrange_79 ?_
          refine lv_imul hx hb dMd_arrange_80 ?_
          refine gx_ri (va_runS (As := [.ref q_palette, .int (4 * v1), .ref q_palette, .int (4 * (f_order (v2 - 1).toNatClampNeg))]) (rest := []) ⟨hx, hb, hml, hown, hB⟩ (metMd_compare__02 l dC dI q_palette c_palette n_palette H.size f_palette (4 * v1) (4 * (f_order (v2 - 1).toNatClampNeg)) hv) (va_cwS 4 hB (gx_gS bw722 bw723 bw53 bw724) rfl rfl rfl (by decide +kernel) ⟨(Nat.le_of_ble_eq_true rfl), (Nat.le_of_ble_eq_true rfl)⟩) (gx_rpreS (hP.sub (ws' := (wdMd_compare__02 q_palette c_palette n_palette f_palette)) [1] rfl) (hK.sub (tys' := [(c_palette, .int)]) [0] rfl) hZ hS hA) rfl rfl hl.1 rfl (lv_room (Nat.le_of_ble_eq_true rfl)) dMd_arrange_81 ⟨(Nat.le_of_ble_eq_true rfl), (Nat.le_of_ble_eq_true rfl)⟩) hP hS hA (fun r_17 H locs hv hP hS => ?_)
          refine lv_if_ge (tgt := 107) hx hb dMd_arrange_84 (by decide) (fun c_19 => ?_) (fun c_19 => ?_)
          · have hv := hv.1 c_19
            exact j107 v1 v2 f_palette f_order f_before hv _ _ _ hP hD hS (lv_sub hl [0, 1, 2] rfl)
          · have hv := hv.2 c_19
            exact j87 v1 v2 f_palette f_order f_before hv _ _ _ hP hD hS (lv_sub hl [0, 1, 2] rfl))
  have hv := hv (by
    intro v1 f_palette f_order f_before hv
    rw [eK122]
    intro H locs ls hP hD hS hl
    rw [eG]
    unfold vcMd_arrange_122 at hv
    refine lv_iload_n hx hb dMd_arrange_122 rfl (lv_at hl 1 rfl) ?_
    refine lv_aload_n hx hb dMd_arrange_123 rfl (lv_at hl 0 rfl) ?_
    refine va_get (D := (dC, dI)) (ci := 8) (v := .int f_size) (C := RMd) (T := TMd) (N := 31) hx hb hB hiMd hown hK hP 0 rfl rfl 21 (by decide) hL158 (fun _ h9 => h9) rfl dMd_arrange_124 ?_
    refine lv_icmp_ge (tgt := 153) hx hb dMd_arrange_127 (by decide) (fun c_20 => ?_) (fun c_20 => ?_)
    · have hv := hv.1 c_20
      refine lv_iconst (v := 0) hx hb dMd_arrange_153 (by decide) ?_
      refine lv_istore_n (lv' := [(1, .int 0), (0, .ref q_this)]) hx hb dMd_arrange_154 rfl hl (by decide) rfl (fun ls hl => ?_)
      rw [eK155, eG] at hv
      exact hv _ _ _ hP hD hS (lv_sub hl [1, 0] rfl)
    · have hv := hv.2 c_20
      refine lv_aload_n hx hb dMd_arrange_130 rfl (lv_at hl 0 rfl) ?_
      refine va_get (D := (dC, dI)) (ci := 8) (v := .ref q_palette) (C := RMd) (T := TMd) (N := 31) hx hb hB hiMd hown hK hP 0 rfl rfl 22 (by decide) hL54 (fun _ h9 => h9) rfl dMd_arrange_131 ?_
      refine lv_iconst (v := 4) hx hb dMd_arrange_134 (by decide) ?_
      refine lv_iload_n hx hb dMd_arrange_135 rfl (lv_at hl 1 rfl) ?_
      refine lv_imul hx hb dMd_arrange_136 ?_
      refine lv_aload_n hx hb dMd_arrange_137 rfl (lv_at hl 0 rfl) ?_
      refine va_get (D := (dC, dI)) (ci := 8) (v := .ref q_before) (C := RMd) (T := TMd) (N := 31) hx hb hB hiMd hown hK hP 0 rfl rfl 27 (by decide) hL69 (fun _ h9 => h9) rfl dMd_arrange_138 ?_
      refine lv_iconst (v := 4) hx hb dMd_arrange_141 (by decide) ?_
      refine lv_iload_n hx hb dMd_arrange_142 rfl (lv_at hl 1 rfl) ?_
      refine lv_imul hx hb dMd_arrange_143 ?_
      have hFc := va_free (wc := (wdMd_copy q_palette q_before c_palette c_before n_palette n_before f_palette f_before)) hD hS hA [1, 4] rfl
      refine gx_v (wr := [(q_this, .inr (8, [.int f_thrown, .int f_width, .int f_height, .ref r_samples, .ref r_isGiven, .ref r_gives, .int f_different, .ref r_colours, .ref r_many, .ref r_group, .int f_groups, .ref r_row, .int f_rowSize, .ref r_channelOf, .ref r_spreads, .ref r_boxMany, .ref r_there, .ref r_groupMany, .ref r_means, .ref r_sums, .int f_ready, .int f_size, .ref q_palette, .ref r_has, .ref q_takers, .ref r_takenSums, .ref q_order, .ref q_before, .int f_rounds, .ref r_roundSums, .ref r_carried])), (q_takers, .inl (c_takers, n_takers, .inl f_takers)), (q_order, .inl (c_order, n_order, .inl f_order))]) (va_runS (As := [.ref q_palette, .int (4 * v1), .ref q_before, .int (4 * v1)]) (rest := []) ⟨hx, hb, hml, hown, hB⟩ (metMd_copy l dC dI q_palette q_before c_palette c_before n_palette n_before H.size f_palette f_before (4 * v1) (4 * v1) hv) (va_cwS 4 hB (gx_gS bw716 bw717 bw53 bw718) rfl rfl rfl (by decide +kernel) ⟨(Nat.le_of_ble_eq_true rfl), (Nat.le_of_ble_eq_true rfl)⟩) (gx_preS (hP.sub (ws' := (wdMd_copy q_palette q_before c_palette c_before n_palette n_before f_palette f_before)) [1, 4] rfl) (hK.sub (tys' := [(c_palette, .int), (c_before, .int)]) [0, 3] rfl) (hD.sub (ws' := (wdMd_copy q_palette q_before c_palette c_before n_palette n_before f_palette f_before)) [1, 4] (by decide) rfl) hZ hS hFc) rfl rfl hl.1 rfl (lv_room (Nat.le_of_ble_eq_true rfl)) dMd_arrange_144 ⟨(Nat.le_of_ble_eq_true rfl), (Nat.le_of_ble_eq_true rfl)⟩) hP hD hS hFc [1, 4] [0, 2, 3] rfl rfl (by decide) (by decide) (fun u_22 H locs hv hP hD hS => ?_)
      obtain ⟨f_before_21, rfl⟩ : ∃ z, z = u_22 := ⟨_, rfl⟩
      have hP : va_P (dC, dI) vwCl (wdMd_arrange q_this q_palette q_takers q_order q_before r_samples r_isGiven r_gives r_colours r_many r_group r_row r_channelOf r_spreads r_boxMany r_there r_groupMany r_means r_sums r_has r_takenSums r_roundSums r_carried c_palette c_takers c_order c_before n_palette n_takers n_order n_before f_thrown f_width f_height f_different f_groups f_rowSize f_ready f_size f_rounds f_palette f_takers f_order f_before_21) H := hP.sub [0, 3, 1, 2, 4] rfl
      have hD : va_D A (wdMd_arrange q_this q_palette q_takers q_order q_before r_samples r_isGiven r_gives r_colours r_many r_group r_row r_channelOf r_spreads r_boxMany r_there r_groupMany r_means r_sums r_has r_takenSums r_roundSums r_carried c_palette c_takers c_order c_before n_palette n_takers n_order n_before f_thrown f_width f_height f_different f_groups f_rowSize f_ready f_size f_rounds f_palette f_takers f_order f_before_21) := hD.sub [0, 3, 1, 2, 4] (by decide) rfl
      refine lv_iinc (v := v1 + 1) (lv' := [(1, .int (v1 + 1)), (0, .ref q_this)]) hx hb dMd_arrange_147 hl (k := 1) rfl rfl (by decide) rfl (fun ls hl => ?_)
      refine lv_goto (tgt := 122) hx hb dMd_arrange_150 (by decide) ?_
      rw [eK122, eG] at hv
      exact hv _ _ _ hP hD hS (lv_sub hl [1, 0] rfl))
  have hv := hv (by
    intro v1 f_palette f_order f_before hv
    rw [eK155]
    intro H locs ls hP hD hS hl
    rw [eG]
    unfold vcMd_arrange_155 at hv
    refine lv_iload_n hx hb dMd_arrange_155 rfl (lv_at hl 1 rfl) ?_
    refine lv_aload_n hx hb dMd_arrange_156 rfl (lv_at hl 0 rfl) ?_
    refine va_get (D := (dC, dI)) (ci := 8) (v := .int f_size) (C := RMd) (T := TMd) (N := 31) hx hb hB hiMd hown hK hP 0 rfl rfl 21 (by decide) hL158 (fun _ h9 => h9) rfl dMd_arrange_157 ?_
    refine lv_icmp_ge (tgt := 191) hx hb dMd_arrange_160 (by decide) (fun c_23 => ?_) (fun c_23 => ?_)
    · have hv := hv.1 c_23
      exact W.vret hx hb hr (fun t ht hW => ⟨⟨(f_palette, f_order, f_before), rfl, hv, by rw [ht]; exact hP, hD⟩, hS.F ht⟩) hS.2.2 dMd_arrange_191
    · have hv := hv.2 c_23
      refine lv_aload_n hx hb dMd_arrange_163 rfl (lv_at hl 0 rfl) ?_
      refine va_get (D := (dC, dI)) (ci := 8) (v := .ref q_before) (C := RMd) (T := TMd) (N := 31) hx hb hB hiMd hown hK hP 0 rfl rfl 27 (by decide) hL69 (fun _ h9 => h9) rfl dMd_arrange_164 ?_
      refine lv_iconst (v := 4) hx hb dMd_arrange_167 (by decide) ?_
      refine lv_aload_n hx hb dMd_arrange_168 rfl (lv_at hl 0 rfl) ?_
      refine va_get (D := (dC, dI)) (ci := 8) (v := .ref q_order) (C := RMd) (T := TMd) (N := 31) hx hb hB hiMd hown hK hP 0 rfl rfl 26 (by decide) hL66 (fun _ h9 => h9) rfl dMd_arrange_169 ?_
      refine lv_iload_n hx hb dMd_arrange_172 rfl (lv_at hl 1 rfl) ?_
      obtain ⟨h_24, hv⟩ := hv
      refine va_iald hx hb hK hP 3 2 rfl rfl h_24 dMd_arrange_173 ?_
      refine lv_imul hx hb dMd_arrange_174 ?_
      refine lv_aload_n hx hb dMd_arrange_175 rfl (lv_at hl 0 rfl) ?_
      refine va_get (D := (dC, dI)) (ci := 8) (v := .ref q_palette) (C := RMd) (T := TMd) (N := 31) hx hb hB hiMd hown hK hP 0 rfl rfl 22 (by decide) hL54 (fun _ h9 => h9) rfl dMd_arrange_176 ?_
      refine lv_iconst (v := 4) hx hb dMd_arrange_179 (by decide) ?_
      refine lv_iload_n hx hb dMd_arrange_180 rfl (lv_at hl 1 rfl) ?_
      refine lv_imul hx hb dMd_arrange_181 ?_
      have hFc := va_free (wc := (wdMd_copy q_before q_palette c_before c_palette n_before n_palette f_before f_palette)) hD hS hA [4, 1] rfl
      refine gx_v (wr := [(q_this, .inr (8, [.int f_thrown, .int f_width, .int f_height, .ref r_samples, .ref r_isGiven, .ref r_gives, .int f_different, .ref r_colours, .ref r_many, .ref r_group, .int f_groups, .ref r_row, .int f_rowSize, .ref r_channelOf, .ref r_spreads, .ref r_boxMany, .ref r_there, .ref r_groupMany, .ref r_means, .ref r_sums, .int f_ready, .int f_size, .ref q_palette, .ref r_has, .ref q_takers, .ref r_takenSums, .ref q_order, .ref q_before, .int f_rounds, .ref r_roundSums, .ref r_carried])), (q_takers, .inl (c_takers, n_takers, .inl f_takers)), (q_order, .inl (c_order, n_order, .inl f_order))]) (va_runS (As := [.ref q_before, .int (4 * (f_order v1.toNatClampNeg)), .ref q_palette, .int (4 * v1)]) (rest := []) ⟨hx, hb, hml, hown, hB⟩ (metMd_copy l dC dI q_before q_palette c_before c_palette n_before n_palette H.size f_before f_palette (4 * (f_order v1.toNatClampNeg)) (4 * v1) hv) (va_cwS 4 hB (gx_gS bw716 bw717 bw53 bw718) rfl rfl rfl (by decide +kernel) ⟨(Nat.le_of_ble_eq_true rfl), (Nat.le_of_ble_eq_true rfl)⟩) (gx_preS (hP.sub (ws' := (wdMd_copy q_before q_palette c_before c_palette n_before n_palette f_before f_palette)) [4, 1] rfl) (hK.sub (tys' := [(c_before, .int), (c_palette, .int)]) [3, 0] rfl) (hD.sub (ws' := (wdMd_copy q_before q_palette c_before c_palette n_before n_palette f_before f_palette)) [4, 1] (by decide) rfl) hZ hS hFc) rfl rfl hl.1 rfl (lv_room (Nat.le_of_ble_eq_true rfl)) dMd_arrange_182 ⟨(Nat.le_of_ble_eq_true rfl), (Nat.le_of_ble_eq_true rfl)⟩) hP hD hS hFc [4, 1] [0, 2, 3] rfl rfl (by decide) (by decide) (fun u_26 H locs hv hP hD hS => ?_)
      obtain ⟨f_palette_25, rfl⟩ : ∃ z, z = u_26 := ⟨_, rfl⟩
      have hP : va_P (dC, dI) vwCl (wdMd_arrange q_this q_palette q_takers q_order q_before r_samples r_isGiven r_gives r_colours r_many r_group r_row r_channelOf r_spreads r_boxMany r_there r_groupMany r_means r_sums r_has r_takenSums r_roundSums r_carried c_palette c_takers c_order c_before n_palette n_takers n_order n_before f_thrown f_width f_height f_different f_groups f_rowSize f_ready f_size f_rounds f_palette_25 f_takers f_order f_before) H := hP.sub [0, 4, 1, 2, 3] rfl
      have hD : va_D A (wdMd_arrange q_this q_palette q_takers q_order q_before r_samples r_isGiven r_gives r_colours r_many r_group r_row r_channelOf r_spreads r_boxMany r_there r_groupMany r_means r_sums r_has r_takenSums r_roundSums r_carried c_palette c_takers c_order c_before n_palette n_takers n_order n_before f_thrown f_width f_height f_different f_groups f_rowSize f_ready f_size f_rounds f_palette_25 f_takers f_order f_before) := hD.sub [0, 4, 1, 2, 3] (by decide) rfl
      refine lv_iinc (v := v1 + 1) (lv' := [(1, .int (v1 + 1)), (0, .ref q_this)]) hx hb dMd_arrange_185 hl (k := 1) rfl rfl (by decide) rfl (fun ls hl => ?_)
      refine lv_goto (tgt := 155) hx hb dMd_arrange_188 (by decide) ?_
      rw [eK155, eG] at hv
      exact hv _ _ _ hP hD hS (lv_sub hl [1, 0] rfl))
  rw [eG]
  refine lv_iconst (v := 0) hx hb dMd_arrange_0 (by decide) ?_
  refine lv_istore_n (lv' := [(1, .int 0), (0, .ref q_this)]) hx hb dMd_arrange_1 rfl hl (by decide) rfl (fun ls hl => ?_)
  rw [eK2, eG] at hv
  exact hv _ _ _ hP hD hS (lv_sub hl [1, 0] rfl)
abbrev wdMd_run (q_this q_samples q_isGiven q_gives q_colours q_many q_group q_row q_channelOf q_spreads q_boxMany q_there q_groupMany q_means q_sums q_palette q_has q_takers q_takenSums q_order q_before q_roundSums r_carried : Nat) (c_samples c_isGiven c_gives c_colours c_many c_group c_row c_channelOf c_spreads c_boxMany c_there c_groupMany c_means c_sums c_palette c_has c_takers c_takenSums c_order c_before c_roundSums : ClassId) (n_samples n_isGiven n_gives n_colours n_many n_group n_row n_channelOf n_spreads n_boxMany n_there n_groupMany n_means n_sums n_palette n_has n_takers n_takenSums n_order n_before n_roundSums : Nat) (f_thrown : Int32) (f_width : Int32) (f_height : Int32) (f_different : Int32) (f_groups : Int32) (f_rowSize : Int32) (f_ready : Int32) (f_size : Int32) (f_rounds : Int32) (f_samples : Nat → Int32) (f_isGiven : Nat → Int32) (f_gives : Nat → Int32) (f_colours : Nat → Int32) (f_many : Nat → Int32) (f_group : Nat → Int32) (f_row : Nat → Int32) (f_channelOf : Nat → Int32) (f_spreads : Nat → Int32) (f_boxMany : Nat → Int32) (f_there : Nat → Int32) (f_groupMany : Nat → Int64) (f_means : Nat → Int32) (f_sums : Nat → Int64) (f_palette : Nat → Int32) (f_has : Nat → Int32) (f_takers : Nat → Int32) (f_takenSums : Nat → Int64) (f_order : Nat → Int32) (f_before : Nat → Int32) (f_roundSums : Nat → Int64) : va_W := [(q_this, .inr (8, [.int f_thrown, .int f_width, .int f_height, .ref q_samples, .ref q_isGiven, .ref q_gives, .int f_different, .ref q_colours, .ref q_many, .ref q_group, .int f_groups, .ref q_row, .int f_rowSize, .ref q_channelOf, .ref q_spreads, .ref q_boxMany, .ref q_there, .ref q_groupMany, .ref q_means, .ref q_sums, .int f_ready, .int f_size, .ref q_palette, .ref q_has, .ref q_takers, .ref q_takenSums, .ref q_order, .ref q_before, .int f_rounds, .ref q_roundSums, .ref r_carried])), (q_samples, .inl (c_samples, n_samples, .inl f_samples)), (q_isGiven, .inl (c_isGiven, n_isGiven, .inl f_isGiven)), (q_gives, .inl (c_gives, n_gives, .inl f_gives)), (q_colours, .inl (c_colours, n_colours, .inl f_colours)), (q_many, .inl (c_many, n_many, .inl f_many)), (q_group, .inl (c_group, n_group, .inl f_group)), (q_row, .inl (c_row, n_row, .inl f_row)), (q_channelOf, .inl (c_channelOf, n_channelOf, .inl f_channelOf)), (q_spreads, .inl (c_spreads, n_spreads, .inl f_spreads)), (q_boxMany, .inl (c_boxMany, n_boxMany, .inl f_boxMany)), (q_there, .inl (c_there, n_there, .inl f_there)), (q_groupMany, .inl (c_groupMany, n_groupMany, .inr (.inl f_groupMany))), (q_means, .inl (c_means, n_means, .inl f_means)), (q_sums, .inl (c_sums, n_sums, .inr (.inl f_sums))), (q_palette, .inl (c_palette, n_palette, .inl f_palette)), (q_has, .inl (c_has, n_has, .inl f_has)), (q_takers, .inl (c_takers, n_takers, .inl f_takers)), (q_takenSums, .inl (c_takenSums, n_takenSums, .inr (.inl f_takenSums))), (q_order, .inl (c_order, n_order, .inl f_order)), (q_before, .inl (c_before, n_before, .inl f_before)), (q_roundSums, .inl (c_roundSums, n_roundSums, .inr (.inl f_roundSums)))]
set_option maxHeartbeats 4000000 in
set_option maxRecDepth 100000 in
theorem metMd_run (l : Launch) (dC : Nat → ClassId) (dI : Nat → Nat → Nat) (q_this q_samples q_isGiven q_gives q_colours q_many q_group q_row q_channelOf q_spreads q_boxMany q_there q_groupMany q_means q_sums q_palette q_has q_takers q_takenSums q_order q_before q_roundSums r_carried : Nat) (c_samples c_isGiven c_gives c_colours c_many c_group c_row c_channelOf c_spreads c_boxMany c_there c_groupMany c_means c_sums c_palette c_has c_takers c_takenSums c_order c_before c_roundSums : ClassId) (n_samples n_isGiven n_gives n_colours n_many n_group n_row n_channelOf n_spreads n_boxMany n_there n_groupMany n_means n_sums n_palette n_has n_takers n_takenSums n_order n_before n_roundSums : Nat) (sz : Nat) (f_thrown : Int32) (f_width : Int32) (f_height : Int32) (f_different : Int32) (f_groups : Int32) (f_rowSize : Int32) (f_ready : Int32) (f_size : Int32) (f_rounds : Int32) (f_samples : Nat → Int32) (f_isGiven : Nat → Int32) (f_gives : Nat → Int32) (f_colours : Nat → Int32) (f_many : Nat → Int32) (f_group : Nat → Int32) (f_row : Nat → Int32) (f_channelOf : Nat → Int32) (f_spreads : Nat → Int32) (f_boxMany : Nat → Int32) (f_there : Nat → Int32) (f_groupMany : Nat → Int64) (f_means : Nat → Int32) (f_sums : Nat → Int64) (f_palette : Nat → Int32) (f_has : Nat → Int32) (f_takers : Nat → Int32) (f_takenSums : Nat → Int64) (f_order : Nat → Int32) (f_before : Nat → Int32) (f_roundSums : Nat → Int64) (x1 : Int32) (x2 : Int32) (x3 : Int32) {post : Int32 → Int32 → Int32 → Int32 → Int32 → Int32 → Int32 → Int32 → (Nat → Int32) → (Nat → Int32) → (Nat → Int32) → (Nat → Int32) → (Nat → Int32) → (Nat → Int32) → (Nat → Int32) → (Nat → Int32) → (Nat → Int64) → (Nat → Int32) → (Nat → Int64) → (Nat → Int32) → (Nat → Int32) → (Nat → Int32) → (Nat → Int64) → (Nat → Int32) → (Nat → Int32) → (Nat → Int64) → Prop} (hw : wpMd_run n_samples n_isGiven n_gives n_colours n_many n_group n_row n_channelOf n_spreads n_boxMany n_there n_groupMany n_means n_sums n_palette n_has n_takers n_takenSums n_order n_before n_roundSums f_thrown f_width f_height f_different f_groups f_rowSize f_ready f_size f_rounds f_samples f_isGiven f_gives f_colours f_many f_group f_row f_channelOf f_spreads f_boxMany f_there f_groupMany f_means f_sums f_palette f_has f_takers f_takenSums f_order f_before f_roundSums x1 x2 x3 post) : Met l yMd_run (.code yMd_run bMd_run 6 (some .int) :: BIG) ({ frames := 6, cells := 0, slots := 0, locals := 139 }) (va_Pc [.ref q_this, .int x1, .int x2, .int x3] (gx_pre (dC, dI) vwCl (wdMd_run q_this q_samples q_isGiven q_gives q_colours q_many q_group q_row q_channelOf q_spreads q_boxMany q_there q_groupMany q_means q_sums q_palette q_has q_takers q_takenSums q_order q_before q_roundSums r_carried c_samples c_isGiven c_gives c_colours c_many c_group c_row c_channelOf c_spreads c_boxMany c_there c_groupMany c_means c_sums c_palette c_has c_takers c_takenSums c_order c_before c_roundSums n_samples n_isGiven n_gives n_colours n_many n_group n_row n_channelOf n_spreads n_boxMany n_there n_groupMany n_means n_sums n_palette n_has n_takers n_takenSums n_order n_before n_roundSums f_thrown f_width f_height f_different f_groups f_rowSize f_ready f_size f_rounds f_samples f_isGiven f_gives f_colours f_many f_group f_row f_channelOf f_spreads f_boxMany f_there f_groupMany f_means f_sums f_palette f_has f_takers f_takenSums f_order f_before f_roundSums) [(c_samples, .int), (c_isGiven, .boolean), (c_gives, .int), (c_colours, .int), (c_many, .int), (c_group, .int), (c_row, .int), (c_channelOf, .int), (c_spreads, .int), (c_boxMany, .int), (c_there, .boolean), (c_groupMany, .long), (c_means, .int), (c_sums, .long), (c_palette, .int), (c_has, .int), (c_takers, .int), (c_takenSums, .long), (c_order, .int), (c_before, .int), (c_roundSums, .long)] sz)) (va_Qi (fun r (u : Int32 × Int32 × Int32 × Int32 × Int32 × Int32 × Int32 × (Nat → Int32) × (Nat → Int32) × (Nat → Int32) × (Nat → Int32) × (Nat → Int32) × (Nat → Int32) × (Nat → Int32) × (Nat → Int32) × (Nat → Int64) × (Nat → Int32) × (Nat → Int64) × (Nat → Int32) × (Nat → Int32) × (Nat → Int32) × (Nat → Int64) × (Nat → Int32) × (Nat → Int32) × (Nat → Int64)) => post r u.1 u.2.1 u.2.2.1 u.2.2.2.1 u.2.2.2.2.1 u.2.2.2.2.2.1 u.2.2.2.2.2.2.1 u.2.2.2.2.2.2.2.1 u.2.2.2.2.2.2.2.2.1 u.2.2.2.2.2.2.2.2.2.1 u.2.2.2.2.2.2.2.2.2.2.1 u.2.2.2.2.2.2.2.2.2.2.2.1 u.2.2.2.2.2.2.2.2.2.2.2.2.1 u.2.2.2.2.2.2.2.2.2.2.2.2.2.1 u.2.2.2.2.2.2.2.2.2.2.2.2.2.2.1 u.2.2.2.2.2.2.2.2.2.2.2.2.2.2.2.1 u.2.2.2.2.2.2.2.2.2.2.2.2.2.2.2.2.1 u.2.2.2.2.2.2.2.2.2.2.2.2.2.2.2.2.2.1 u.2.2.2.2.2.2.2.2.2.2.2.2.2.2.2.2.2.2.1 u.2.2.2.2.2.2.2.2.2.2.2.2.2.2.2.2.2.2.2.1 u.2.2.2.2.2.2.2.2.2.2.2.2.2.2.2.2.2.2.2.2.1 u.2.2.2.2.2.2.2.2.2.2.2.2.2.2.2.2.2.2.2.2.2.1 u.2.2.2.2.2.2.2.2.2.2.2.2.2.2.2.2.2.2.2.2.2.2.1 u.2.2.2.2.2.2.2.2.2.2.2.2.2.2.2.2.2.2.2.2.2.2.2.1 u.2.2.2.2.2.2.2.2.2.2.2.2.2.2.2.2.2.2.2.2.2.2.2.2) (gx_B (dC, dI) vwCl (va_A (wdMd_run q_this q_samples q_isGiven q_gives q_colours q_many q_group q_row q_channelOf q_spreads q_boxMany q_there q_groupMany q_means q_sums q_palette q_has q_takers q_takenSums q_order q_before q_roundSums r_carried c_samples c_isGiven c_gives c_colours c_many c_group c_row c_channelOf c_spreads c_boxMany c_there c_groupMany c_means c_sums c_palette c_has c_takers c_takenSums c_order c_before c_roundSums n_samples n_isGiven n_gives n_colours n_many n_group n_row n_channelOf n_spreads n_boxMany n_there n_groupMany n_means n_sums n_palette n_has n_takers n_takenSums n_order n_before n_roundSums f_thrown f_width f_height f_different f_groups f_rowSize f_ready f_size f_rounds f_samples f_isGiven f_gives f_colours f_many f_group f_row f_channelOf f_spreads f_boxMany f_there f_groupMany f_means f_sums f_palette f_has f_takers f_takenSums f_order f_before f_roundSums) sz) (fun (u : Int32 × Int32 × Int32 × Int32 × Int32 × Int32 × Int32 × (Nat → Int32) × (Nat → Int32) × (Nat → Int32) × (Nat → Int32) × (Nat → Int32) × (Nat → Int32) × (Nat → Int32) × (Nat → Int32) × (Nat → Int64) × (Nat → Int32) × (Nat → Int64) × (Nat → Int32) × (Nat → Int32) × (Nat → Int32) × (Nat → Int64) × (Nat → Int32) × (Nat → Int32) × (Nat → Int64)) => (wdMd_run q_this q_samples q_isGiven q_gives q_colours q_many q_group q_row q_channelOf q_spreads q_boxMany q_there q_groupMany q_means q_sums q_palette q_has q_takers q_takenSums q_order q_before q_roundSums r_carried c_samples c_isGiven c_gives c_colours c_many c_group c_row c_channelOf c_spreads c_boxMany c_there c_groupMany c_means c_sums c_palette c_has c_takers c_takenSums c_order c_before c_roundSums n_samples n_isGiven n_gives n_colours n_many n_group n_row n_channelOf n_spreads n_boxMany n_there n_groupMany n_means n_sums n_palette n_has n_takers n_takenSums n_order n_before n_roundSums u.1 f_width f_height u.2.1 u.2.2.1 u.2.2.2.1 u.2.2.2.2.1 u.2.2.2.2.2.1 u.2.2.2.2.2.2.1 f_samples f_isGiven f_gives u.2.2.2.2.2.2.2.1 u.2.2.2.2.2.2.2.2.1 u.2.2.2.2.2.2.2.2.2.1 u.2.2.2.2.2.2.2.2.2.2.1 u.2.2.2.2.2.2.2.2.2.2.2.1 u.2.2.2.2.2.2.2.2.2.2.2.2.1 u.2.2.2.2.2.2.2.2.2.2.2.2.2.1 u.2.2.2.2.2.2.2.2.2.2.2.2.2.2.1 u.2.2.2.2.2.2.2.2.2.2.2.2.2.2.2.1 u.2.2.2.2.2.2.2.2.2.2.2.2.2.2.2.2.1 u.2.2.2.2.2.2.2.2.2.2.2.2.2.2.2.2.2.1 u.2.2.2.2.2.2.2.2.2.2.2.2.2.2.2.2.2.2.1 u.2.2.2.2.2.2.2.2.2.2.2.2.2.2.2.2.2.2.2.1 u.2.2.2.2.2.2.2.2.2.2.2.2.2.2.2.2.2.2.2.2.1 u.2.2.2.2.2.2.2.2.2.2.2.2.2.2.2.2.2.2.2.2.2.1 u.2.2.2.2.2.2.2.2.2.2.2.2.2.2.2.2.2.2.2.2.2.2.1 u.2.2.2.2.2.2.2.2.2.2.2.2.2.2.2.2.2.2.2.2.2.2.2.1 u.2.2.2.2.2.2.2.2.2.2.2.2.2.2.2.2.2.2.2.2.2.2.2.2))) (va_A (wdMd_run q_this q_samples q_isGiven q_gives q_colours q_many q_group q_row q_channelOf q_spreads q_boxMany q_there q_groupMany q_means q_sums q_palette q_has q_takers q_takenSums q_order q_before q_roundSums r_carried c_samples c_isGiven c_gives c_colours c_many c_group c_row c_channelOf c_spreads c_boxMany c_there c_groupMany c_means c_sums c_palette c_has c_takers c_takenSums c_order c_before c_roundSums n_samples n_isGiven n_gives n_colours n_many n_group n_row n_channelOf n_spreads n_boxMany n_there n_groupMany n_means n_sums n_palette n_has n_takers n_takenSums n_order n_before n_roundSums f_thrown f_width f_height f_different f_groups f_rowSize f_ready f_size f_rounds f_samples f_isGiven f_gives f_colours f_many f_group f_row f_channelOf f_spreads f_boxMany f_there f_groupMany f_means f_sums f_palette f_has f_takers f_takenSums f_order f_before f_roundSums) sz)) 0 0 (va_A (wdMd_run q_this q_samples q_isGiven q_gives q_colours q_many q_group q_row q_channelOf q_spreads q_boxMany q_there q_groupMany q_means q_sums q_palette q_has q_takers q_takenSums q_order q_before q_roundSums r_carried c_samples c_isGiven c_gives c_colours c_many c_group c_row c_channelOf c_spreads c_boxMany c_there c_groupMany c_means c_sums c_palette c_has c_takers c_takenSums c_order c_before c_roundSums n_samples n_isGiven n_gives n_colours n_many n_group n_row n_channelOf n_spreads n_boxMany n_there n_groupMany n_means n_sums n_palette n_has n_takers n_takenSums n_order n_before n_roundSums f_thrown f_width f_height f_different f_groups f_rowSize f_ready f_size f_rounds f_samples f_isGiven f_gives f_colours f_many f_group f_row f_channelOf f_spreads f_boxMany f_there f_groupMany f_means f_sums f_palette f_has f_takers f_takenSums f_order f_before f_roundSums) sz) := by
  refine Met.ofW (cc := bMd_run) (maxL := 6) (ret := (some .int)) (by decide) rfl ?_
  intro p e s m args below meth c s₁ B hml hv
  obtain ⟨rfl, hsz, hP, hK, hD0, hZ⟩ := hv
  have hx := B.exec
  have hb := B.bytes
  have hr := B.returns
  have hts := atoms_spec (ws := (.code yMd_run bMd_run 6 (some .int) :: BIG)) B.pre
  have hB : ∀ w ∈ BIG, w.before _ s = true := fun w h => hts w (List.mem_cons_of_mem _ h)
  have hown : s.vm.findClass RMd = some m.cls := findClass_of_methodNamed B.named
  have hlocks := B.notSynchronized
  subst hsz
  have hD := hD0.self (sz := s.heap.size)
  generalize hAe : va_A (wdMd_run q_this q_samples q_isGiven q_gives q_colours q_many q_group q_row q_channelOf q_spreads q_boxMany q_there q_groupMany q_means q_sums q_palette q_has q_takers q_takenSums q_order q_before q_roundSums r_carried c_samples c_isGiven c_gives c_colours c_many c_group c_row c_channelOf c_spreads c_boxMany c_there c_groupMany c_means c_sums c_palette c_has c_takers c_takenSums c_order c_before c_roundSums n_samples n_isGiven n_gives n_colours n_many n_group n_row n_channelOf n_spreads n_boxMany n_there n_groupMany n_means n_sums n_palette n_has n_takers n_takenSums n_order n_before n_roundSums f_thrown f_width f_height f_different f_groups f_rowSize f_ready f_size f_rounds f_samples f_isGiven f_gives f_colours f_many f_group f_row f_channelOf f_spreads f_boxMany f_there f_groupMany f_means f_sums f_palette f_has f_takers f_takenSums f_order f_before f_roundSums) s.heap.size = A at hD hZ ⊢
  have hA : ∀ q : Nat, s.heap.size ≤ q → A q := fun q h => by rw [← hAe]; exact Or.inr h
  have hS : va_S A s.heap s.heap [] := va_S.rf
  have hl := lv_entry ([.ref q_this, .int x1, .int x2, .int x3]) (n := 6) (Nat.le_of_ble_eq_true rfl)
  rw [lg_entry_eq]
  generalize (lg_sl ([.ref q_this, .int x1, .int x2, .int x3]) ++ List.replicate (6 - (lg_sl ([.ref q_this, .int x1, .int x2, .int x3])).length) Slot.unset).toArray = ls at hl ⊢
  have hl : lv_has ls 6 [(0, .ref q_this), (1, .int x1), (2, .int x2), (3, .int x3)] := hl
  have hL72 := (hB _ bw644)
  have hL85 := (hB _ bw615)
  have hL100 := (hB _ bw635)
  have hL158 := (hB _ bw636)
  have hL175 := (hB _ bw643)
  refine gx_abs (fun G eG => ?_)
  obtain ⟨K74, eK74⟩ : ∃ K : Int32 → Int32 → Int32 → Int32 → Int32 → Int32 → Int32 → Int32 → (Nat → Int32) → (Nat → Int32) → (Nat → Int32) → (Nat → Int32) → (Nat → Int32) → (Nat → Int32) → (Nat → Int32) → (Nat → Int32) → (Nat → Int64) → (Nat → Int32) → (Nat → Int64) → (Nat → Int32) → (Nat → Int32) → (Nat → Int32) → (Nat → Int64) → (Nat → Int32) → (Nat → Int32) → (Nat → Int64) → Prop, K = fun v4 f_thrown f_different f_groups f_rowSize f_ready f_size f_rounds f_colours f_many f_group f_row f_channelOf f_spreads f_boxMany f_there f_groupMany f_means f_sums f_palette f_has f_takers f_takenSums f_order f_before f_roundSums => ∀ (H : Heap) (locs : List Loc) (ls : Array Slot), va_P (dC, dI) vwCl (wdMd_run q_this q_samples q_isGiven q_gives q_colours q_many q_group q_row q_channelOf q_spreads q_boxMany q_there q_groupMany q_means q_sums q_palette q_has q_takers q_takenSums q_order q_before q_roundSums r_carried c_samples c_isGiven c_gives c_colours c_many c_group c_row c_channelOf c_spreads c_boxMany c_there c_groupMany c_means c_sums c_palette c_has c_takers c_takenSums c_order c_before c_roundSums n_samples n_isGiven n_gives n_colours n_many n_group n_row n_channelOf n_spreads n_boxMany n_there n_groupMany n_means n_sums n_palette n_has n_takers n_takenSums n_order n_before n_roundSums f_thrown f_width f_height f_different f_groups f_rowSize f_ready f_size f_rounds f_samples f_isGiven f_gives f_colours f_many f_group f_row f_channelOf f_spreads f_boxMany f_there f_groupMany f_means f_sums f_palette f_has f_takers f_takenSums f_order f_before f_roundSums) H → va_D A (wdMd_run q_this q_samples q_isGiven q_gives q_colours q_many q_group q_row q_channelOf q_spreads q_boxMany q_there q_groupMany q_means q_sums q_palette q_has q_takers q_takenSums q_order q_before q_roundSums r_carried c_samples c_isGiven c_gives c_colours c_many c_group c_row c_channelOf c_spreads c_boxMany c_there c_groupMany c_means c_sums c_palette c_has c_takers c_takenSums c_order c_before c_roundSums n_samples n_isGiven n_gives n_colours n_many n_group n_row n_channelOf n_spreads n_boxMany n_there n_groupMany n_means n_sums n_palette n_has n_takers n_takenSums n_order n_before n_roundSums f_thrown f_width f_height f_different f_groups f_rowSize f_ready f_size f_rounds f_samples f_isGiven f_gives f_colours f_many f_group f_row f_channelOf f_spreads f_boxMany f_there f_groupMany f_means f_sums f_palette f_has f_takers f_takenSums f_order f_before f_roundSums) → va_S A s.heap H locs → lv_has ls 6 [(0, .ref q_this), (1, .int x1), (3, .int x3), (4, .int v4)] → G H locs 0 0 (F0 m 74 ls []) := ⟨_, rfl⟩
  have j126 : ∀ (f_thrown : Int32) (f_different : Int32) (f_groups : Int32) (f_rowSize : Int32) (f_ready : Int32) (f_size : Int32) (f_rounds : Int32) (f_colours : Nat → Int32) (f_many : Nat → Int32) (f_group : Nat → Int32) (f_row : Nat → Int32) (f_channelOf : Nat → Int32) (f_spreads : Nat → Int32) (f_boxMany : Nat → Int32) (f_there : Nat → Int32) (f_groupMany : Nat → Int64) (f_means : Nat → Int32) (f_sums : Nat → Int64) (f_palette : Nat → Int32) (f_has : Nat → Int32) (f_takers : Nat → Int32) (f_takenSums : Nat → Int64) (f_order : Nat → Int32) (f_before : Nat → Int32) (f_roundSums : Nat → Int64), vcMd_run_126 n_samples n_isGiven n_gives n_colours n_many n_group n_row n_channelOf n_spreads n_boxMany n_there n_groupMany n_means n_sums n_palette n_has n_takers n_takenSums n_order n_before n_roundSums f_width f_height f_samples f_isGiven f_gives x1 x2 x3 K74 post f_thrown f_different f_groups f_rowSize f_ready f_size f_rounds f_colours f_many f_group f_row f_channelOf f_spreads f_boxMany f_there f_groupMany f_means f_sums f_palette f_has f_takers f_takenSums f_order f_before f_roundSums → ∀ (H : Heap) (locs : List Loc) (ls : Array Slot), va_P (dC, dI) vwCl (wdMd_run q_this q_samples q_isGiven q_gives q_colours q_many q_group q_row q_channelOf q_spreads q_boxMany q_there q_groupMany q_means q_sums q_palette q_has q_takers q_takenSums q_order q_before q_roundSums r_carried c_samples c_isGiven c_gives c_colours c_many c_group c_row c_channelOf c_spreads c_boxMany c_there c_groupMany c_means c_sums c_palette c_has c_takers c_takenSums c_order c_before c_roundSums n_samples n_isGiven n_gives n_colours n_many n_group n_row n_channelOf n_spreads n_boxMany n_there n_groupMany n_means n_sums n_palette n_has n_takers n_takenSums n_order n_before n_roundSums f_thrown f_width f_height f_different f_groups f_rowSize f_ready f_size f_rounds f_samples f_isGiven f_gives f_colours f_many f_group f_row f_channelOf f_spreads f_boxMany f_there f_groupMany f_means f_sums f_palette f_has f_takers f_takenSums f_order f_before f_roundSums) H → va_D A (wdMd_run q_this q_samples q_isGiven q_gives q_colours q_many q_group q_row q_channelOf q_spreads q_boxMany q_there q_groupMany q_means q_sums q_palette q_has q_takers q_takenSums q_order q_before q_roundSums r_carried c_samples c_isGiven c_gives c_colours c_many c_group c_row c_channelOf c_spreads c_boxMany c_there c_groupMany c_means c_sums c_palette c_has c_takers c_takenSums c_order c_before c_roundSums n_samples n_isGiven n_gives n_colours n_many n_group n_row n_channelOf n_spreads n_boxMany n_there n_groupMany n_means n_sums n_palette n_has n_takers n_takenSums n_order n_before n_roundSums f_thrown f_width f_height f_different f_groups f_rowSize f_ready f_size f_rounds f_samples f_isGiven f_gives f_colours f_many f_group f_row f_channelOf f_spreads f_boxMany f_there f_groupMany f_means f_sums f_palette f_has f_takers f_takenSums f_order f_before f_roundSums) → va_S A s.heap H locs → lv_has ls 6 [(0, .ref q_this)] → G H locs 0 0 (F0 m 126 ls []) := by
    intro f_thrown f_different f_groups f_rowSize f_ready f_size f_rounds f_colours f_many f_group f_row f_channelOf f_spreads f_boxMany f_there f_groupMany f_means f_sums f_palette f_has f_takers f_takenSums f_order f_before f_roundSums hv H locs ls hP hD hS hl
    rw [eG]
    unfold vcMd_run_126 at hv
    refine lv_aload_n hx hb dMd_run_126 rfl (lv_at hl 0 rfl) ?_
    refine lv_iconst (v := 1) hx hb dMd_run_127 (by decide) ?_
    refine va_put (D := (dC, dI)) (ci := 8) (v := .int 1) (ty := .boolean) (C := RMd) (T := TMd) (N := 31) hx hb hB hiMd tMd tMd_ok nMd hown hK hP hD hS 0 rfl rfl 20 (by decide) hL100 (fun _ h9 => h9) rfl (by decide +kernel) rfl rfl (Nat.le_of_ble_eq_true rfl) dMd_run_128 (fun H locs hP hD hS => ?_)
    have hP : va_P (dC, dI) vwCl (wdMd_run q_this q_samples q_isGiven q_gives q_colours q_many q_group q_row q_channelOf q_spreads q_boxMany q_there q_groupMany q_means q_sums q_palette q_has q_takers q_takenSums q_order q_before q_roundSums r_carried c_samples c_isGiven c_gives c_colours c_many c_group c_row c_channelOf c_spreads c_boxMany c_there c_groupMany c_means c_sums c_palette c_has c_takers c_takenSums c_order c_before c_roundSums n_samples n_isGiven n_gives n_colours n_many n_group n_row n_channelOf n_spreads n_boxMany n_there n_groupMany n_means n_sums n_palette n_has n_takers n_takenSums n_order n_before n_roundSums f_thrown f_width f_height f_different f_groups f_rowSize 1 f_size f_rounds f_samples f_isGiven f_gives f_colours f_many f_group f_row f_channelOf f_spreads f_boxMany f_there f_groupMany f_means f_sums f_palette f_has f_takers f_takenSums f_order f_before f_roundSums) H := hP
    have hD : va_D A (wdMd_run q_this q_samples q_isGiven q_gives q_colours q_many q_group q_row q_channelOf q_spreads q_boxMany q_there q_groupMany q_means q_sums q_palette q_has q_takers q_takenSums q_order q_before q_roundSums r_carried c_samples c_isGiven c_gives c_colours c_many c_group c_row c_channelOf c_spreads c_boxMany c_there c_groupMany c_means c_sums c_palette c_has c_takers c_takenSums c_order c_before c_roundSums n_samples n_isGiven n_gives n_colours n_many n_group n_row n_channelOf n_spreads n_boxMany n_there n_groupMany n_means n_sums n_palette n_has n_takers n_takenSums n_order n_before n_roundSums f_thrown f_width f_height f_different f_groups f_rowSize 1 f_size f_rounds f_samples f_isGiven f_gives f_colours f_many f_group f_row f_channelOf f_spreads f_boxMany f_there f_groupMany f_means f_sums f_palette f_has f_takers f_takenSums f_order f_before f_roundSums) := hD
    refine lv_aload_n hx hb dMd_run_131 rfl (lv_at hl 0 rfl) ?_
    refine va_get (D := (dC, dI)) (ci := 8) (v := .int f_size) (C := RMd) (T := TMd) (N := 31) hx hb hB hiMd hown hK hP 0 rfl rfl 21 (by decide) hL158 (fun _ h9 => h9) rfl dMd_run_132 ?_
    exact W.iret (v := f_size) hx hb hr (fun t ht hW => ⟨⟨_, (f_thrown, f_different, f_groups, f_rowSize, 1, f_size, f_rounds, f_colours, f_many, f_group, f_row, f_channelOf, f_spreads, f_boxMany, f_there, f_groupMany, f_means, f_sums, f_palette, f_has, f_takers, f_takenSums, f_order, f_before, f_roundSums), rfl, hv, by rw [ht]; exact hP, hD⟩, hS.F ht⟩) hS.2.2 dMd_run_135
  rw [eG] at j126
  have j48 : ∀ (s0 : Int32), vcMd_run_48 n_samples n_isGiven n_gives n_colours n_many n_group n_row n_channelOf n_spreads n_boxMany n_there n_groupMany n_means n_sums n_palette n_has n_takers n_takenSums n_order n_before n_roundSums f_width f_height f_samples f_isGiven f_gives x1 x2 x3 K74 post s0 f_thrown f_different f_groups f_rowSize f_ready f_size f_rounds f_colours f_many f_group f_row f_channelOf f_spreads f_boxMany f_there f_groupMany f_means f_sums f_palette f_has f_takers f_takenSums f_order f_before f_roundSums → ∀ (H : Heap) (locs : List Loc) (ls : Array Slot), va_P (dC, dI) vwCl (wdMd_run q_this q_samples q_isGiven q_gives q_colours q_many q_group q_row q_channelOf q_spreads q_boxMany q_there q_groupMany q_means q_sums q_palette q_has q_takers q_takenSums q_order q_before q_roundSums r_carried c_samples c_isGiven c_gives c_colours c_many c_group c_row c_channelOf c_spreads c_boxMany c_there c_groupMany c_means c_sums c_palette c_has c_takers c_takenSums c_order c_before c_roundSums n_samples n_isGiven n_gives n_colours n_many n_group n_row n_channelOf n_spreads n_boxMany n_there n_groupMany n_means n_sums n_palette n_has n_takers n_takenSums n_order n_before n_roundSums f_thrown f_width f_height f_different f_groups f_rowSize f_ready f_size f_rounds f_samples f_isGiven f_gives f_colours f_many f_group f_row f_channelOf f_spreads f_boxMany f_there f_groupMany f_means f_sums f_palette f_has f_takers f_takenSums f_order f_before f_roundSums) H → va_D A (wdMd_run q_this q_samples q_isGiven q_gives q_colours q_many q_group q_row q_channelOf q_spreads q_boxMany q_there q_groupMany q_means q_sums q_palette q_has q_takers q_takenSums q_order q_before q_roundSums r_carried c_samples c_isGiven c_gives c_colours c_many c_group c_row c_channelOf c_spreads c_boxMany c_there c_groupMany c_means c_sums c_palette c_has c_takers c_takenSums c_order c_before c_roundSums n_samples n_isGiven n_gives n_colours n_many n_group n_row n_channelOf n_spreads n_boxMany n_there n_groupMany n_means n_sums n_palette n_has n_takers n_takenSums n_order n_before n_roundSums f_thrown f_width f_height f_different f_groups f_rowSize f_ready f_size f_rounds f_samples f_isGiven f_gives f_colours f_many f_group f_row f_channelOf f_spreads f_boxMany f_there f_groupMany f_means f_sums f_palette f_has f_takers f_takenSums f_order f_before f_roundSums) → va_S A s.heap H locs → lv_has ls 6 [(0, .ref q_this), (1, .int x1), (2, .int x2), (3, .int x3)] → G H locs 0 0 (F0 m 48 ls [.int s0, .ref q_this]) := by
    intro s0 hv H locs ls hP hD hS hl
    rw [eG]
    unfold vcMd_run_48 at hv
    refine va_put (D := (dC, dI)) (ci := 8) (v := .int s0) (ty := .int) (C := RMd) (T := TMd) (N := 31) hx hb hB hiMd tMd tMd_ok nMd hown hK hP hD hS 0 rfl rfl 0 (by decide) hL85 (fun _ h9 => h9) rfl (by decide +kernel) rfl rfl (Nat.le_of_ble_eq_true rfl) dMd_run_48 (fun H locs hP hD hS => ?_)
    have hP : va_P (dC, dI) vwCl (wdMd_run q_this q_samples q_isGiven q_gives q_colours q_many q_group q_row q_channelOf q_spreads q_boxMany q_there q_groupMany q_means q_sums q_palette q_has q_takers q_takenSums q_order q_before q_roundSums r_carried c_samples c_isGiven c_gives c_colours c_many c_group c_row c_channelOf c_spreads c_boxMany c_there c_groupMany c_means c_sums c_palette c_has c_takers c_takenSums c_order c_before c_roundSums n_samples n_isGiven n_gives n_colours n_many n_group n_row n_channelOf n_spreads n_boxMany n_there n_groupMany n_means n_sums n_palette n_has n_takers n_takenSums n_order n_before n_roundSums s0 f_width f_height f_different f_groups f_rowSize f_ready f_size f_rounds f_samples f_isGiven f_gives f_colours f_many f_group f_row f_channelOf f_spreads f_boxMany f_there f_groupMany f_means f_sums f_palette f_has f_takers f_takenSums f_order f_before f_roundSums) H := hP
    have hD : va_D A (wdMd_run q_this q_samples q_isGiven q_gives q_colours q_many q_group q_row q_channelOf q_spreads q_boxMany q_there q_groupMany q_means q_sums q_palette q_has q_takers q_takenSums q_order q_before q_roundSums r_carried c_samples c_isGiven c_gives c_colours c_many c_group c_row c_channelOf c_spreads c_boxMany c_there c_groupMany c_means c_sums c_palette c_has c_takers c_takenSums c_order c_before c_roundSums n_samples n_isGiven n_gives n_colours n_many n_group n_row n_channelOf n_spreads n_boxMany n_there n_groupMany n_means n_sums n_palette n_has n_takers n_takenSums n_order n_before n_roundSums s0 f_width f_height f_different f_groups f_rowSize f_ready f_size f_rounds f_samples f_isGiven f_gives f_colours f_many f_group f_row f_channelOf f_spreads f_boxMany f_there f_groupMany f_means f_sums f_palette f_has f_takers f_takenSums f_order f_before f_roundSums) := hD
    refine lv_aload_n hx hb dMd_run_51 rfl (lv_at hl 0 rfl) ?_
    refine va_get (D := (dC, dI)) (ci := 8) (v := .int s0) (C := RMd) (T := TMd) (N := 31) hx hb hB hiMd hown hK hP 0 rfl rfl 0 (by decide) hL85 (fun _ h9 => h9) rfl dMd_run_52 ?_
    refine lv_if_le (tgt := 60) hx hb dMd_run_55 (by decide) (fun c_1 => ?_) (fun c_1 => ?_)
    · have hv := hv.1 c_1
      refine lv_aload_n hx hb dMd_run_60 rfl (lv_at hl 0 rfl) ?_
      refine lv_iload_n hx hb dMd_run_61 rfl (lv_at hl 1 rfl) ?_
      refine lv_iload_n hx hb dMd_run_62 rfl (lv_at hl 2 rfl) ?_
      have hFc := va_free (wc := (wdMd_begin q_this q_samples q_isGiven q_gives q_colours q_many q_group q_row q_channelOf q_spreads q_boxMany q_there q_groupMany q_means q_sums q_palette q_has q_takers q_takenSums q_order q_before q_roundSums r_carried c_samples c_isGiven c_gives c_colours c_many c_group c_row c_channelOf c_spreads c_boxMany c_there c_groupMany c_means c_sums c_palette n_samples n_isGiven n_gives n_colours n_many n_group n_row n_channelOf n_spreads n_boxMany n_there n_groupMany n_means n_sums n_palette s0 f_width f_height f_different f_groups f_rowSize f_ready f_size f_rounds f_samples f_isGiven f_gives f_colours f_many f_group f_row f_channelOf f_spreads f_boxMany f_there f_groupMany f_means f_sums f_palette)) hD hS hA [0, 1, 2, 3, 4, 5, 6, 7, 8, 9, 10, 11, 12, 13, 14, 15] rfl
      refine gx_v (wr := [(q_has, .inl (c_has, n_has, .inl f_has)), (q_takers, .inl (c_takers, n_takers, .inl f_takers)), (q_takenSums, .inl (c_takenSums, n_takenSums, .inr (.inl f_takenSums))), (q_order, .inl (c_order, n_order, .inl f_order)), (q_before, .inl (c_before, n_before, .inl f_before)), (q_roundSums, .inl (c_roundSums, n_roundSums, .inr (.inl f_roundSums)))]) (va_runV (As := [.int x1, .int x2]) (rest := []) ⟨hx, hb, hml, hown, hB⟩ (metMd_begin l dC dI q_this q_samples q_isGiven q_gives q_colours q_many q_group q_row q_channelOf q_spreads q_boxMany q_there q_groupMany q_means q_sums q_palette q_has q_takers q_takenSums q_order q_before q_roundSums r_carried c_samples c_isGiven c_gives c_colours c_many c_group c_row c_channelOf c_spreads c_boxMany c_there c_groupMany c_means c_sums c_palette n_samples n_isGiven n_gives n_colours n_many n_group n_row n_channelOf n_spreads n_boxMany n_there n_groupMany n_means n_sums n_palette H.size s0 f_width f_height f_different f_groups f_rowSize f_ready f_size f_rounds f_samples f_isGiven f_gives f_colours f_many f_group f_row f_channelOf f_spreads f_boxMany f_there f_groupMany f_means f_sums f_palette x1 x2 hv) (cwV 2 hB (gx_gV bw713 bw714 bw26 bw53 bw715) rfl rfl rfl (by decide +kernel) ⟨(Nat.le_of_ble_eq_true rfl), (Nat.le_of_ble_eq_true rfl)⟩) (gx_preV (ci := 8) (hP.sub (ws' := (wdMd_begin q_this q_samples q_isGiven q_gives q_colours q_many q_group q_row q_channelOf q_spreads q_boxMany q_there q_groupMany q_means q_sums q_palette q_has q_takers q_takenSums q_order q_before q_roundSums r_carried c_samples c_isGiven c_gives c_colours c_many c_group c_row c_channelOf c_spreads c_boxMany c_there c_groupMany c_means c_sums c_palette n_samples n_isGiven n_gives n_colours n_many n_group n_row n_channelOf n_spreads n_boxMany n_there n_groupMany n_means n_sums n_palette s0 f_width f_height f_different f_groups f_rowSize f_ready f_size f_rounds f_samples f_isGiven f_gives f_colours f_many f_group f_row f_channelOf f_spreads f_boxMany f_there f_groupMany f_means f_sums f_palette)) [0, 1, 2, 3, 4, 5, 6, 7, 8, 9, 10, 11, 12, 13, 14, 15] rfl) (hK.sub (tys' := [(c_samples, .int), (c_isGiven, .boolean), (c_gives, .int), (c_colours, .int), (c_many, .int), (c_group, .int), (c_row, .int), (c_channelOf, .int), (c_spreads, .int), (c_boxMany, .int), (c_there, .boolean), (c_groupMany, .long), (c_means, .int), (c_sums, .long), (c_palette, .int)]) [0, 1, 2, 3, 4, 5, 6, 7, 8, 9, 10, 11, 12, 13, 14] rfl) (hD.sub (ws' := (wdMd_begin q_this q_samples q_isGiven q_gives q_colours q_many q_group q_row q_channelOf q_spreads q_boxMany q_there q_groupMany q_means q_sums q_palette q_has q_takers q_takenSums q_order q_before q_roundSums r_carried c_samples c_isGiven c_gives c_colours c_many c_group c_row c_channelOf c_spreads c_boxMany c_there c_groupMany c_means c_sums c_palette n_samples n_isGiven n_gives n_colours n_many n_group n_row n_channelOf n_spreads n_boxMany n_there n_groupMany n_means n_sums n_palette s0 f_width f_height f_different f_groups f_rowSize f_ready f_size f_rounds f_samples f_isGiven f_gives f_colours f_many f_group f_row f_channelOf f_spreads f_boxMany f_there f_groupMany f_means f_sums f_palette)) [0, 1, 2, 3, 4, 5, 6, 7, 8, 9, 10, 11, 12, 13, 14, 15] (by decide) rfl) hZ hS hFc rfl rfl) rfl rfl hl.1 rfl (lv_room (Nat.le_of_ble_eq_true rfl)) dMd_run_63 ⟨(Nat.le_of_ble_eq_true rfl), (Nat.le_of_ble_eq_true rfl)⟩) hP hD hS hFc [0, 1, 2, 3, 4, 5, 6, 7, 8, 9, 10, 11, 12, 13, 14, 15] [16, 17, 18, 19, 20, 21] rfl rfl (by decide) (by decide) (fun u_18 H locs hv hP hD hS => ?_)
      obtain ⟨f_different_2, f_groups_3, f_rowSize_4, f_size_5, f_colours_6, f_many_7, f_group_8, f_row_9, f_channelOf_10, f_spreads_11, f_boxMany_12, f_there_13, f_groupMany_14, f_means_15, f_sums_16, f_palette_17⟩ := u_18
      have hP : va_P (dC, dI) vwCl (wdMd_run q_this q_samples q_isGiven q_gives q_colours q_many q_group q_row q_channelOf q_spreads q_boxMany q_there q_groupMany q_means q_sums q_palette q_has q_takers q_takenSums q_order q_before q_roundSums r_carried c_samples c_isGiven c_gives c_colours c_many c_group c_row c_channelOf c_spreads c_boxMany c_there c_groupMany c_means c_sums c_palette c_has c_takers c_takenSums c_order c_before c_roundSums n_samples n_isGiven n_gives n_colours n_many n_group n_row n_channelOf n_spreads n_boxMany n_there n_groupMany n_means n_sums n_palette n_has n_takers n_takenSums n_order n_before n_roundSums s0 f_width f_height f_different_2 f_groups_3 f_rowSize_4 f_ready f_size_5 f_rounds f_samples f_isGiven f_gives f_colours_6 f_many_7 f_group_8 f_row_9 f_channelOf_10 f_spreads_11 f_boxMany_12 f_there_13 f_groupMany_14 f_means_15 f_sums_16 f_palette_17 f_has f_takers f_takenSums f_order f_before f_roundSums) H := hP.sub [6, 7, 8, 9, 10, 11, 12, 13, 14, 15, 16, 17, 18, 19, 20, 21, 0, 1, 2, 3, 4, 5] rfl
      have hD : va_D A (wdMd_run q_this q_samples q_isGiven q_gives q_colours q_many q_group q_row q_channelOf q_spreads q_boxMany q_there q_groupMany q_means q_sums q_palette q_has q_takers q_takenSums q_order q_before q_roundSums r_carried c_samples c_isGiven c_gives c_colours c_many c_group c_row c_channelOf c_spreads c_boxMany c_there c_groupMany c_means c_sums c_palette c_has c_takers c_takenSums c_order c_before c_roundSums n_samples n_isGiven n_gives n_colours n_many n_group n_row n_channelOf n_spreads n_boxMany n_there n_groupMany n_means n_sums n_palette n_has n_takers n_takenSums n_order n_before n_roundSums s0 f_width f_height f_different_2 f_groups_3 f_rowSize_4 f_ready f_size_5 f_rounds f_samples f_isGiven f_gives f_colours_6 f_many_7 f_group_8 f_row_9 f_channelOf_10 f_spreads_11 f_boxMany_12 f_there_13 f_groupMany_14 f_means_15 f_sums_16 f_palette_17 f_has f_takers f_takenSums f_order f_before f_roundSums) := hD.sub [6, 7, 8, 9, 10, 11, 12, 13, 14, 15, 16, 17, 18, 19, 20, 21, 0, 1, 2, 3, 4, 5] (by decide) rfl
      refine lv_aload_n hx hb dMd_run_66 rfl (lv_at hl 0 rfl) ?_
      refine lv_iload_n hx hb dMd_run_67 rfl (lv_at hl 3 rfl) ?_
      refine va_put (D := (dC, dI)) (ci := 8) (v := .int x3) (ty := .int) (C := RMd) (T := TMd) (N := 31) hx hb hB hiMd tMd tMd_ok nMd hown hK hP hD hS 0 rfl rfl 28 (by decide) hL175 (fun _ h9 => h9) rfl (by decide +kernel) rfl rfl (Nat.le_of_ble_eq_true rfl) dMd_run_68 (fun H locs hP hD hS => ?_)
      have hP : va_P (dC, dI) vwCl (wdMd_run q_this q_samples q_isGiven q_gives q_colours q_many q_group q_row q_channelOf q_spreads q_boxMany q_there q_groupMany q_means q_sums q_palette q_has q_takers q_takenSums q_order q_before q_roundSums r_carried c_samples c_isGiven c_gives c_colours c_many c_group c_row c_channelOf c_spreads c_boxMany c_there c_groupMany c_means c_sums c_palette c_has c_takers c_takenSums c_order c_before c_roundSums n_samples n_isGiven n_gives n_colours n_many n_group n_row n_channelOf n_spreads n_boxMany n_there n_groupMany n_means n_sums n_palette n_has n_takers n_takenSums n_order n_before n_roundSums s0 f_width f_height f_different_2 f_groups_3 f_rowSize_4 f_ready f_size_5 x3 f_samples f_isGiven f_gives f_colours_6 f_many_7 f_group_8 f_row_9 f_channelOf_10 f_spreads_11 f_boxMany_12 f_there_13 f_groupMany_14 f_means_15 f_sums_16 f_palette_17 f_has f_takers f_takenSums f_order f_before f_roundSums) H := hP
      have hD : va_D A (wdMd_run q_this q_samples q_isGiven q_gives q_colours q_many q_group q_row q_channelOf q_spreads q_boxMany q_there q_groupMany q_means q_sums q_palette q_has q_takers q_takenSums q_order q_before q_roundSums r_carried c_samples c_isGiven c_gives c_colours c_many c_group c_row c_channelOf c_spreads c_boxMany c_there c_groupMany c_means c_sums c_palette c_has c_takers c_takenSums c_order c_before c_roundSums n_samples n_isGiven n_gives n_colours n_many n_group n_row n_channelOf n_spreads n_boxMany n_there n_groupMany n_means n_sums n_palette n_has n_takers n_takenSums n_order n_before n_roundSums s0 f_width f_height f_different_2 f_groups_3 f_rowSize_4 f_ready f_size_5 x3 f_samples f_isGiven f_gives f_colours_6 f_many_7 f_group_8 f_row_9 f_channelOf_10 f_spreads_11 f_boxMany_12 f_there_13 f_groupMany_14 f_means_15 f_sums_16 f_palette_17 f_has f_takers f_takenSums f_order f_before f_roundSums) := hD
      refine lv_iconst (v := 0) hx hb dMd_run_71 (by decide) ?_
      refine lv_istore (lv' := [(4, .int 0), (0, .ref q_this), (1, .int x1), (2, .int x2), (3, .int x3)]) hx hb dMd_run_72 hl (by decide) rfl (fun ls hl => ?_)
      rw [eK74, eG] at hv
      exact hv _ _ _ hP hD hS (lv_sub hl [1, 2, 4, 0] rfl)
    · have hv := hv.2 c_1
      refine lv_iconst (v := 0) hx hb dMd_run_58 (by decide) ?_
      exact W.iret (v := 0) hx hb hr (fun t ht hW => ⟨⟨_, (s0, f_different, f_groups, f_rowSize, f_ready, f_size, f_rounds, f_colours, f_many, f_group, f_row, f_channelOf, f_spreads, f_boxMany, f_there, f_groupMany, f_means, f_sums, f_palette, f_has, f_takers, f_takenSums, f_order, f_before, f_roundSums), rfl, hv, by rw [ht]; exact hP, hD⟩, hS.F ht⟩) hS.2.2 dMd_run_59
  rw [eG] at j48
  have j43 : vcMd_run_43 n_samples n_isGiven n_gives n_colours n_many n_group n_row n_channelOf n_spreads n_boxMany n_there n_groupMany n_means n_sums n_palette n_has n_takers n_takenSums n_order n_before n_roundSums f_width f_height f_samples f_isGiven f_gives x1 x2 x3 K74 post f_thrown f_different f_groups f_rowSize f_ready f_size f_rounds f_colours f_many f_group f_row f_channelOf f_spreads f_boxMany f_there f_groupMany f_means f_sums f_palette f_has f_takers f_takenSums f_order f_before f_roundSums → ∀ (H : Heap) (locs : List Loc) (ls : Array Slot), va_P (dC, dI) vwCl (wdMd_run q_this q_samples q_isGiven q_gives q_colours q_many q_group q_row q_channelOf q_spreads q_boxMany q_there q_groupMany q_means q_sums q_palette q_has q_takers q_takenSums q_order q_before q_roundSums r_carried c_samples c_isGiven c_gives c_colours c_many c_group c_row c_channelOf c_spreads c_boxMany c_there c_groupMany c_means c_sums c_palette c_has c_takers c_takenSums c_order c_before c_roundSums n_samples n_isGiven n_gives n_colours n_many n_group n_row n_channelOf n_spreads n_boxMany n_there n_groupMany n_means n_sums n_palette n_has n_takers n_takenSums n_order n_before n_roundSums f_thrown f_width f_height f_different f_groups f_rowSize f_ready f_size f_rounds f_samples f_isGiven f_gives f_colours f_many f_group f_row f_channelOf f_spreads f_boxMany f_there f_groupMany f_means f_sums f_palette f_has f_takers f_takenSums f_order f_before f_roundSums) H → va_D A (wdMd_run q_this q_samples q_isGiven q_gives q_colours q_many q_group q_row q_channelOf q_spreads q_boxMany q_there q_groupMany q_means q_sums q_palette q_has q_takers q_takenSums q_order q_before q_roundSums r_carried c_samples c_isGiven c_gives c_colours c_many c_group c_row c_channelOf c_spreads c_boxMany c_there c_groupMany c_means c_sums c_palette c_has c_takers c_takenSums c_order c_before c_roundSums n_samples n_isGiven n_gives n_colours n_many n_group n_row n_channelOf n_spreads n_boxMany n_there n_groupMany n_means n_sums n_palette n_has n_takers n_takenSums n_order n_before n_roundSums f_thrown f_width f_height f_different f_groups f_rowSize f_ready f_size f_rounds f_samples f_isGiven f_gives f_colours f_many f_group f_row f_channelOf f_spreads f_boxMany f_there f_groupMany f_means f_sums f_palette f_has f_takers f_takenSums f_order f_before f_roundSums) → va_S A s.heap H locs → lv_has ls 6 [(0, .ref q_this), (1, .int x1), (2, .int x2), (3, .int x3)] → G H locs 0 0 (F0 m 43 ls [.ref q_this]) := by
    intro  hv H locs ls hP hD hS hl
    rw [eG]
    unfold vcMd_run_43 at hv
    refine lv_iconst (v := 1) hx hb dMd_run_43 (by decide) ?_
    refine lv_goto (tgt := 48) hx hb dMd_run_44 (by decide) ?_
    exact j48 1 hv _ _ _ hP hD hS (lv_sub hl [0, 1, 2, 3] rfl)
  rw [eG] at j43
  have j47 : vcMd_run_47 n_samples n_isGiven n_gives n_colours n_many n_group n_row n_channelOf n_spreads n_boxMany n_there n_groupMany n_means n_sums n_palette n_has n_takers n_takenSums n_order n_before n_roundSums f_width f_height f_samples f_isGiven f_gives x1 x2 x3 K74 post f_thrown f_different f_groups f_rowSize f_ready f_size f_rounds f_colours f_many f_group f_row f_channelOf f_spreads f_boxMany f_there f_groupMany f_means f_sums f_palette f_has f_takers f_takenSums f_order f_before f_roundSums → ∀ (H : Heap) (locs : List Loc) (ls : Array Slot), va_P (dC, dI) vwCl (wdMd_run q_this q_samples q_isGiven q_gives q_colours q_many q_group q_row q_channelOf q_spreads q_boxMany q_there q_groupMany q_means q_sums q_palette q_has q_takers q_takenSums q_order q_before q_roundSums r_carried c_samples c_isGiven c_gives c_colours c_many c_group c_row c_channelOf c_spreads c_boxMany c_there c_groupMany c_means c_sums c_palette c_has c_takers c_takenSums c_order c_before c_roundSums n_samples n_isGiven n_gives n_colours n_many n_group n_row n_channelOf n_spreads n_boxMany n_there n_groupMany n_means n_sums n_palette n_has n_takers n_takenSums n_order n_before n_roundSums f_thrown f_width f_height f_different f_groups f_rowSize f_ready f_size f_rounds f_samples f_isGiven f_gives f_colours f_many f_group f_row f_channelOf f_spreads f_boxMany f_there f_groupMany f_means f_sums f_palette f_has f_takers f_takenSums f_order f_before f_roundSums) H → va_D A (wdMd_run q_this q_samples q_isGiven q_gives q_colours q_many q_group q_row q_channelOf q_spreads q_boxMany q_there q_groupMany q_means q_sums q_palette q_has q_takers q_takenSums q_order q_before q_roundSums r_carried c_samples c_isGiven c_gives c_colours c_many c_group c_row c_channelOf c_spreads c_boxMany c_there c_groupMany c_means c_sums c_palette c_has c_takers c_takenSums c_order c_before c_roundSums n_samples n_isGiven n_gives n_colours n_many n_group n_row n_channelOf n_spreads n_boxMany n_there n_groupMany n_means n_sums n_palette n_has n_takers n_takenSums n_order n_before n_roundSums f_thrown f_width f_height f_different f_groups f_rowSize f_ready f_size f_rounds f_samples f_isGiven f_gives f_colours f_many f_group f_row f_channelOf f_spreads f_boxMany f_there f_groupMany f_means f_sums f_palette f_has f_takers f_takenSums f_order f_before f_roundSums) → va_S A s.heap H locs → lv_has ls 6 [(0, .ref q_this), (1, .int x1), (2, .int x2), (3, .int x3)] → G H locs 0 0 (F0 m 47 ls [.ref q_this]) := by
    intro  hv H locs ls hP hD hS hl
    rw [eG]
    unfold vcMd_run_47 at hv
    refine lv_iconst (v := 0) hx hb dMd_run_47 (by decide) ?_
    exact j48 0 hv _ _ _ hP hD hS (lv_sub hl [0, 1, 2, 3] rfl)
  rw [eG] at j47
  unfold wpMd_run at hw
  have hv := hw K74
  have hv := hv (by
    intro v4 f_thrown f_different f_groups f_rowSize f_ready f_size f_rounds f_colours f_many f_group f_row f_channelOf f_spreads f_boxMany f_there f_groupMany f_means f_sums f_palette f_has f_takers f_takenSums f_order f_before f_roundSums hv
    rw [eK74]
    intro H locs ls hP hD hS hl
    rw [eG]
    unfold vcMd_run_74 at hv
    refine lv_iload hx hb dMd_run_74 (lv_at hl 3 rfl) ?_
    refine lv_iload_n hx hb dMd_run_76 rfl (lv_at hl 2 rfl) ?_
    refine lv_icmp_ge (tgt := 101) hx hb dMd_run_77 (by decide) (fun c_19 => ?_) (fun c_19 => ?_)
    · have hv := hv.1 c_19
      refine lv_aload_n hx hb dMd_run_101 rfl (lv_at hl 0 rfl) ?_
      refine va_get (D := (dC, dI)) (ci := 8) (v := .ref q_roundSums) (C := RMd) (T := TMd) (N := 31) hx hb hB hiMd hown hK hP 0 rfl rfl 29 (by decide) hL72 (fun _ h9 => h9) rfl dMd_run_102 ?_
      refine lv_iload_n hx hb dMd_run_105 rfl (lv_at hl 2 rfl) ?_
      refine lv_aload_n hx hb dMd_run_106 rfl (lv_at hl 0 rfl) ?_
      have hFc := va_free (wc := (wdMd_take q_this q_samples q_palette q_has q_takers q_takenSums q_isGiven q_gives q_colours q_many q_group q_row q_channelOf q_spreads q_boxMany q_there q_groupMany q_means q_sums q_order q_before q_roundSums r_carried c_samples c_palette c_has c_takers c_takenSums n_samples n_palette n_has n_takers n_takenSums f_thrown f_width f_height f_different f_groups f_rowSize f_ready f_size f_rounds f_samples f_palette f_has f_takers f_takenSums)) hD hS hA [0, 1, 15, 16, 17, 18] rfl
      refine gx_l (wr := [(q_isGiven, .inl (c_isGiven, n_isGiven, .inl f_isGiven)), (q_gives, .inl (c_gives, n_gives, .inl f_gives)), (q_colours, .inl (c_colours, n_colours, .inl f_colours)), (q_many, .inl (c_many, n_many, .inl f_many)), (q_group, .inl (c_group, n_group, .inl f_group)), (q_row, .inl (c_row, n_row, .inl f_row)), (q_channelOf, .inl (c_channelOf, n_channelOf, .inl f_channelOf)), (q_spreads, .inl (c_spreads, n_spreads, .inl f_spreads)), (q_boxMany, .inl (c_boxMany, n_boxMany, .inl f_boxMany)), (q_there, .inl (c_there, n_there, .inl f_there)), (q_groupMany, .inl (c_groupMany, n_groupMany, .inr (.inl f_groupMany))), (q_means, .inl (c_means, n_means, .inl f_means)), (q_sums, .inl (c_sums, n_sums, .inr (.inl f_sums))), (q_order, .inl (c_order, n_order, .inl f_order)), (q_before, .inl (c_before, n_before, .inl f_before)), (q_roundSums, .inl (c_roundSums, n_roundSums, .inr (.inl f_roundSums)))]) (va_runV (As := []) (rest := [.int x3, .ref q_roundSums]) ⟨hx, hb, hml, hown, hB⟩ (metMd_take l dC dI q_this q_samples q_palette q_has q_takers q_takenSums q_isGiven q_gives q_colours q_many q_group q_row q_channelOf q_spreads q_boxMany q_there q_groupMany q_means q_sums q_order q_before q_roundSums r_carried c_samples c_palette c_has c_takers c_takenSums n_samples n_palette n_has n_takers n_takenSums H.size f_thrown f_width f_height f_different f_groups f_rowSize f_ready f_size f_rounds f_samples f_palette f_has f_takers f_takenSums hv) (cwV 0 hB (gx_gV bw756 bw757 bw37 bw53 bw758) rfl rfl rfl (by decide +kernel) ⟨(Nat.le_of_ble_eq_true rfl), (Nat.le_of_ble_eq_true rfl)⟩) (gx_preV (ci := 8) (hP.sub (ws' := (wdMd_take q_this q_samples q_palette q_has q_takers q_takenSums q_isGiven q_gives q_colours q_many q_group q_row q_channelOf q_spreads q_boxMany q_there q_groupMany q_means q_sums q_order q_before q_roundSums r_carried c_samples c_palette c_has c_takers c_takenSums n_samples n_palette n_has n_takers n_takenSums f_thrown f_width f_height f_different f_groups f_rowSize f_ready f_size f_rounds f_samples f_palette f_has f_takers f_takenSums)) [0, 1, 15, 16, 17, 18] rfl) (hK.sub (tys' := [(c_samples, .int), (c_palette, .int), (c_has, .int), (c_takers, .int), (c_takenSums, .long)]) [0, 14, 15, 16, 17] rfl) (hD.sub (ws' := (wdMd_take q_this q_samples q_palette q_has q_takers q_takenSums q_isGiven q_gives q_colours q_many q_group q_row q_channelOf q_spreads q_boxMany q_there q_groupMany q_means q_sums q_order q_before q_roundSums r_carried c_samples c_palette c_has c_takers c_takenSums n_samples n_palette n_has n_takers n_takenSums f_thrown f_width f_height f_different f_groups f_rowSize f_ready f_size f_rounds f_samples f_palette f_has f_takers f_takenSums)) [0, 1, 15, 16, 17, 18] (by decide) rfl) hZ hS hFc rfl rfl) rfl rfl hl.1 rfl (lv_room (Nat.le_of_ble_eq_true rfl)) dMd_run_107 ⟨(Nat.le_of_ble_eq_true rfl), (Nat.le_of_ble_eq_true rfl)⟩) hP hD hS hFc [0, 1, 15, 16, 17, 18] [2, 3, 4, 5, 6, 7, 8, 9, 10, 11, 12, 13, 14, 19, 20, 21] rfl rfl (by decide) (by decide) (fun r_23 u_24 H locs hv hP hD hS => ?_)
      obtain ⟨f_has_20, f_takers_21, f_takenSums_22⟩ := u_24
      have hP : va_P (dC, dI) vwCl (wdMd_run q_this q_samples q_isGiven q_gives q_colours q_many q_group q_row q_channelOf q_spreads q_boxMany q_there q_groupMany q_means q_sums q_palette q_has q_takers q_takenSums q_order q_before q_roundSums r_carried c_samples c_isGiven c_gives c_colours c_many c_group c_row c_channelOf c_spreads c_boxMany c_there c_groupMany c_means c_sums c_palette c_has c_takers c_takenSums c_order c_before c_roundSums n_samples n_isGiven n_gives n_colours n_many n_group n_row n_channelOf n_spreads n_boxMany n_there n_groupMany n_means n_sums n_palette n_has n_takers n_takenSums n_order n_before n_roundSums f_thrown f_width f_height f_different f_groups f_rowSize f_ready f_size f_rounds f_samples f_isGiven f_gives f_colours f_many f_group f_row f_channelOf f_spreads f_boxMany f_there f_groupMany f_means f_sums f_palette f_has_20 f_takers_21 f_takenSums_22 f_order f_before f_roundSums) H := hP.sub [16, 17, 0, 1, 2, 3, 4, 5, 6, 7, 8, 9, 10, 11, 12, 18, 19, 20, 21, 13, 14, 15] rfl
      have hD : va_D A (wdMd_run q_this q_samples q_isGiven q_gives q_colours q_many q_group q_row q_channelOf q_spreads q_boxMany q_there q_groupMany q_means q_sums q_palette q_has q_takers q_takenSums q_order q_before q_roundSums r_carried c_samples c_isGiven c_gives c_colours c_many c_group c_row c_channelOf c_spreads c_boxMany c_there c_groupMany c_means c_sums c_palette c_has c_takers c_takenSums c_order c_before c_roundSums n_samples n_isGiven n_gives n_colours n_many n_group n_row n_channelOf n_spreads n_boxMany n_there n_groupMany n_means n_sums n_palette n_has n_takers n_takenSums n_order n_before n_roundSums f_thrown f_width f_height f_different f_groups f_rowSize f_ready f_size f_rounds f_samples f_isGiven f_gives f_colours f_many f_group f_row f_channelOf f_spreads f_boxMany f_there f_groupMany f_means f_sums f_palette f_has_20 f_takers_21 f_takenSums_22 f_order f_before f_roundSums) := hD.sub [16, 17, 0, 1, 2, 3, 4, 5, 6, 7, 8, 9, 10, 11, 12, 18, 19, 20, 21, 13, 14, 15] (by decide) rfl
      obtain ⟨h_25, hv⟩ := hv
      refine va_last hx hb hK hP hD hS 21 20 rfl rfl h_25 dMd_run_110 (fun H locs hP hD hS => ?_)
      have hP : va_P (dC, dI) vwCl (wdMd_run q_this q_samples q_isGiven q_gives q_colours q_many q_group q_row q_channelOf q_spreads q_boxMany q_there q_groupMany q_means q_sums q_palette q_has q_takers q_takenSums q_order q_before q_roundSums r_carried c_samples c_isGiven c_gives c_colours c_many c_group c_row c_channelOf c_spreads c_boxMany c_there c_groupMany c_means c_sums c_palette c_has c_takers c_takenSums c_order c_before c_roundSums n_samples n_isGiven n_gives n_colours n_many n_group n_row n_channelOf n_spreads n_boxMany n_there n_groupMany n_means n_sums n_palette n_has n_takers n_takenSums n_order n_before n_roundSums f_thrown f_width f_height f_different f_groups f_rowSize f_ready f_size f_rounds f_samples f_isGiven f_gives f_colours f_many f_group f_row f_channelOf f_spreads f_boxMany f_there f_groupMany f_means f_sums f_palette f_has_20 f_takers_21 f_takenSums_22 f_order f_before (vp_updL f_roundSums x3.toNatClampNeg r_23)) H := hP
      have hD : va_D A (wdMd_run q_this q_samples q_isGiven q_gives q_colours q_many q_group q_row q_channelOf q_spreads q_boxMany q_there q_groupMany q_means q_sums q_palette q_has q_takers q_takenSums q_order q_before q_roundSums r_carried c_samples c_isGiven c_gives c_colours c_many c_group c_row c_channelOf c_spreads c_boxMany c_there c_groupMany c_means c_sums c_palette c_has c_takers c_takenSums c_order c_before c_roundSums n_samples n_isGiven n_gives n_colours n_many n_group n_row n_channelOf n_spreads n_boxMany n_there n_groupMany n_means n_sums n_palette n_has n_takers n_takenSums n_order n_before n_roundSums f_thrown f_width f_height f_different f_groups f_rowSize f_ready f_size f_rounds f_samples f_isGiven f_gives f_colours f_many f_group f_row f_channelOf f_spreads f_boxMany f_there f_groupMany f_means f_sums f_palette f_has_20 f_takers_21 f_takenSums_22 f_order f_before (vp_updL f_roundSums x3.toNatClampNeg r_23)) := hD
      refine lv_iload_n hx hb dMd_run_111 rfl (lv_at hl 1 rfl) ?_
      refine lv_iconst (v := 2) hx hb dMd_run_112 (by decide) ?_
      refine lv_icmp_eq (tgt := 126) hx hb dMd_run_113 (by decide) (fun c_27 => ?_) (fun c_27 => ?_)
      · have hv := hv.1 c_27
        exact j126 f_thrown f_different f_groups f_rowSize f_ready f_size f_rounds f_colours f_many f_group f_row f_channelOf f_spreads f_boxMany f_there f_groupMany f_means f_sums f_palette f_has_20 f_takers_21 f_takenSums_22 f_order f_before (vp_updL f_roundSums x3.toNatClampNeg r_23) hv _ _ _ hP hD hS (lv_sub hl [0] rfl)
      · have hv := hv.2 c_27
        refine lv_aload_n hx hb dMd_run_116 rfl (lv_at hl 0 rfl) ?_
        have hFc := va_free (wc := (wdMd_arrange q_this q_palette q_takers q_order q_before q_samples q_isGiven q_gives q_colours q_many q_group q_row q_channelOf q_spreads q_boxMany q_there q_groupMany q_means q_sums q_has q_takenSums q_roundSums r_carried c_palette c_takers c_order c_before n_palette n_takers n_order n_before f_thrown f_width f_height f_different f_groups f_rowSize f_ready f_size f_rounds f_palette f_takers_21 f_order f_before)) hD hS hA [0, 15, 17, 19, 20] rfl
        refine gx_v (wr := [(q_samples, .inl (c_samples, n_samples, .inl f_samples)), (q_isGiven, .inl (c_isGiven, n_isGiven, .inl f_isGiven)), (q_gives, .inl (c_gives, n_gives, .inl f_gives)), (q_colours, .inl (c_colours, n_colours, .inl f_colours)), (q_many, .inl (c_many, n_many, .inl f_many)), (q_group, .inl (c_group, n_group, .inl f_group)), (q_row, .inl (c_row, n_row, .inl f_row)), (q_channelOf, .inl (c_channelOf, n_channelOf, .inl f_channelOf)), (q_spreads, .inl (c_spreads, n_spreads, .inl f_spreads)), (q_boxMany, .inl (c_boxMany, n_boxMany, .inl f_boxMany)), (q_there, .inl (c_there, n_there, .inl f_there)), (q_groupMany, .inl (c_groupMany, n_groupMany, .inr (.inl f_groupMany))), (q_means, .inl (c_means, n_means, .inl f_means)), (q_sums, .inl (c_sums, n_sums, .inr (.inl f_sums))), (q_has, .inl (c_has, n_has, .inl f_has_20)), (q_takenSums, .inl (c_takenSums, n_takenSums, .inr (.inl f_takenSums_22))), (q_roundSums, .inl (c_roundSums, n_roundSums, .inr (.inl (vp_updL f_roundSums x3.toNatClampNeg r_23))))]) (va_runV (As := []) (rest := []) ⟨hx, hb, hml, hown, hB⟩ (metMd_arrange l dC dI q_this q_palette q_takers q_order q_before q_samples q_isGiven q_gives q_colours q_many q_group q_row q_channelOf q_spreads q_boxMany q_there q_groupMany q_means q_sums q_has q_takenSums q_roundSums r_carried c_palette c_takers c_order c_before n_palette n_takers n_order n_before H.size f_thrown f_width f_height f_different f_groups f_rowSize f_ready f_size f_rounds f_palette f_takers_21 f_order f_before hv) (cwV 0 hB (gx_gV bw765 bw766 bw40 bw53 bw767) rfl rfl rfl (by decide +kernel) ⟨(Nat.le_of_ble_eq_true rfl), (Nat.le_of_ble_eq_true rfl)⟩) (gx_preV (ci := 8) (hP.sub (ws' := (wdMd_arrange q_this q_palette q_takers q_order q_before q_samples q_isGiven q_gives q_colours q_many q_group q_row q_channelOf q_spreads q_boxMany q_there q_groupMany q_means q_sums q_has q_takenSums q_roundSums r_carried c_palette c_takers c_order c_before n_palette n_takers n_order n_before f_thrown f_width f_height f_different f_groups f_rowSize f_ready f_size f_rounds f_palette f_takers_21 f_order f_before)) [0, 15, 17, 19, 20] rfl) (hK.sub (tys' := [(c_palette, .int), (c_takers, .int), (c_order, .int), (c_before, .int)]) [14, 16, 18, 19] rfl) (hD.sub (ws' := (wdMd_arrange q_this q_palette q_takers q_order q_before q_samples q_isGiven q_gives q_colours q_many q_group q_row q_channelOf q_spreads q_boxMany q_there q_groupMany q_means q_sums q_has q_takenSums q_roundSums r_carried c_palette c_takers c_order c_before n_palette n_takers n_order n_before f_thrown f_width f_height f_different f_groups f_rowSize f_ready f_size f_rounds f_palette f_takers_21 f_order f_before)) [0, 15, 17, 19, 20] (by decide) rfl) hZ hS hFc rfl rfl) rfl rfl hl.1 rfl (lv_room (Nat.le_of_ble_eq_true rfl)) dMd_run_117 ⟨(Nat.le_of_ble_eq_true rfl), (Nat.le_of_ble_eq_true rfl)⟩) hP hD hS hFc [0, 15, 17, 19, 20] [1, 2, 3, 4, 5, 6, 7, 8, 9, 10, 11, 12, 13, 14, 16, 18, 21] rfl rfl (by decide) (by decide) (fun u_31 H locs hv hP hD hS => ?_)
        obtain ⟨f_palette_28, f_order_29, f_before_30⟩ := u_31
        have hP : va_P (dC, dI) vwCl (wdMd_run q_this q_samples q_isGiven q_gives q_colours q_many q_group q_row q_channelOf q_spreads q_boxMany q_there q_groupMany q_means q_sums q_palette q_has q_takers q_takenSums q_order q_before q_roundSums r_carried c_samples c_isGiven c_gives c_colours c_many c_group c_row c_channelOf c_spreads c_boxMany c_there c_groupMany c_means c_sums c_palette c_has c_takers c_takenSums c_order c_before c_roundSums n_samples n_isGiven n_gives n_colours n_many n_group n_row n_channelOf n_spreads n_boxMany n_there n_groupMany n_means n_sums n_palette n_has n_takers n_takenSums n_order n_before n_roundSums f_thrown f_width f_height f_different f_groups f_rowSize f_ready f_size f_rounds f_samples f_isGiven f_gives f_colours f_many f_group f_row f_channelOf f_spreads f_boxMany f_there f_groupMany f_means f_sums f_palette_28 f_has_20 f_takers_21 f_takenSums_22 f_order_29 f_before_30 (vp_updL f_roundSums x3.toNatClampNeg r_23)) H := hP.sub [17, 0, 1, 2, 3, 4, 5, 6, 7, 8, 9, 10, 11, 12, 13, 18, 14, 19, 15, 20, 21, 16] rfl
        have hD : va_D A (wdMd_run q_this q_samples q_isGiven q_gives q_colours q_many q_group q_row q_channelOf q_spreads q_boxMany q_there q_groupMany q_means q_sums q_palette q_has q_takers q_takenSums q_order q_before q_roundSums r_carried c_samples c_isGiven c_gives c_colours c_many c_group c_row c_channelOf c_spreads c_boxMany c_there c_groupMany c_means c_sums c_palette c_has c_takers c_takenSums c_order c_before c_roundSums n_samples n_isGiven n_gives n_colours n_many n_group n_row n_channelOf n_spreads n_boxMany n_there n_groupMany n_means n_sums n_palette n_has n_takers n_takenSums n_order n_before n_roundSums f_thrown f_width f_height f_different f_groups f_rowSize f_ready f_size f_rounds f_samples f_isGiven f_gives f_colours f_many f_group f_row f_channelOf f_spreads f_boxMany f_there f_groupMany f_means f_sums f_palette_28 f_has_20 f_takers_21 f_takenSums_22 f_order_29 f_before_30 (vp_updL f_roundSums x3.toNatClampNeg r_23)) := hD.sub [17, 0, 1, 2, 3, 4, 5, 6, 7, 8, 9, 10, 11, 12, 13, 18, 14, 19, 15, 20, 21, 16] (by decide) rfl
        refine lv_aload_n hx hb dMd_run_120 rfl (lv_at hl 0 rfl) ?_
        have hFc := va_free (wc := (wdMd_take q_this q_samples q_palette q_has q_takers q_takenSums q_isGiven q_gives q_colours q_many q_group q_row q_channelOf q_spreads q_boxMany q_there q_groupMany q_means q_sums q_order q_before q_roundSums r_carried c_samples c_palette c_has c_takers c_takenSums n_samples n_palette n_has n_takers n_takenSums f_thrown f_width f_height f_different f_groups f_rowSize f_ready f_size f_rounds f_samples f_palette_28 f_has_20 f_takers_21 f_takenSums_22)) hD hS hA [0, 1, 15, 16, 17, 18] rfl
        refine gx_l (wr := [(q_isGiven, .inl (c_isGiven, n_isGiven, .inl f_isGiven)), (q_gives, .inl (c_gives, n_gives, .inl f_gives)), (q_colours, .inl (c_colours, n_colours, .inl f_colours)), (q_many, .inl (c_many, n_many, .inl f_many)), (q_group, .inl (c_group, n_group, .inl f_group)), (q_row, .inl (c_row, n_row, .inl f_row)), (q_channelOf, .inl (c_channelOf, n_channelOf, .inl f_channelOf)), (q_spreads, .inl (c_spreads, n_spreads, .inl f_spreads)), (q_boxMany, .inl (c_boxMany, n_boxMany, .inl f_boxMany)), (q_there, .inl (c_there, n_there, .inl f_there)), (q_groupMany, .inl (c_groupMany, n_groupMany, .inr (.inl f_groupMany))), (q_means, .inl (c_means, n_means, .inl f_means)), (q_sums, .inl (c_sums, n_sums, .inr (.inl f_sums))), (q_order, .inl (c_order, n_order, .inl f_order_29)), (q_before, .inl (c_before, n_before, .inl f_before_30)), (q_roundSums, .inl (c_roundSums, n_roundSums, .inr (.inl (vp_updL f_roundSums x3.toNatClampNeg r_23))))]) (va_runV (As := []) (rest := []) ⟨hx, hb, hml, hown, hB⟩ (metMd_take l dC dI q_this q_samples q_palette q_has q_takers q_takenSums q_isGiven q_gives q_colours q_many q_group q_row q_channelOf q_spreads q_boxMany q_there q_groupMany q_means q_sums q_order q_before q_roundSums r_carried c_samples c_palette c_has c_takers c_takenSums n_samples n_palette n_has n_takers n_takenSums H.size f_thrown f_width f_height f_different f_groups f_rowSize f_ready f_size f_rounds f_samples f_palette_28 f_has_20 f_takers_21 f_takenSums_22 hv) (cwV 0 hB (gx_gV bw756 bw757 bw37 bw53 bw758) rfl rfl rfl (by decide +kernel) ⟨(Nat.le_of_ble_eq_true rfl), (Nat.le_of_ble_eq_true rfl)⟩) (gx_preV (ci := 8) (hP.sub (ws' := (wdMd_take q_this q_samples q_palette q_has q_takers q_takenSums q_isGiven q_gives q_colours q_many q_group q_row q_channelOf q_spreads q_boxMany q_there q_groupMany q_means q_sums q_order q_before q_roundSums r_carried c_samples c_palette c_has c_takers c_takenSums n_samples n_palette n_has n_takers n_takenSums f_thrown f_width f_height f_different f_groups f_rowSize f_ready f_size f_rounds f_samples f_palette_28 f_has_20 f_takers_21 f_takenSums_22)) [0, 1, 15, 16, 17, 18] rfl) (hK.sub (tys' := [(c_samples, .int), (c_palette, .int), (c_has, .int), (c_takers, .int), (c_takenSums, .long)]) [0, 14, 15, 16, 17] rfl) (hD.sub (ws' := (wdMd_take q_this q_samples q_palette q_has q_takers q_takenSums q_isGiven q_gives q_colours q_many q_group q_row q_channelOf q_spreads q_boxMany q_there q_groupMany q_means q_sums q_order q_before q_roundSums r_carried c_samples c_palette c_has c_takers c_takenSums n_samples n_palette n_has n_takers n_takenSums f_thrown f_width f_height f_different f_groups f_rowSize f_ready f_size f_rounds f_samples f_palette_28 f_has_20 f_takers_21 f_takenSums_22)) [0, 1, 15, 16, 17, 18] (by decide) rfl) hZ hS hFc rfl rfl) rfl rfl hl.1 rfl (lv_room (Nat.le_of_ble_eq_true rfl)) dMd_run_121 ⟨(Nat.le_of_ble_eq_true rfl), (Nat.le_of_ble_eq_true rfl)⟩) hP hD hS hFc [0, 1, 15, 16, 17, 18] [2, 3, 4, 5, 6, 7, 8, 9, 10, 11, 12, 13, 14, 19, 20, 21] rfl rfl (by decide) (by decide) (fun r_35 u_36 H locs hv hP hD hS => ?_)
        obtain ⟨f_has_32, f_takers_33, f_takenSums_34⟩ := u_36
        have hP : va_P (dC, dI) vwCl (wdMd_run q_this q_samples q_isGiven q_gives q_colours q_many q_group q_row q_channelOf q_spreads q_boxMany q_there q_groupMany q_means q_sums q_palette q_has q_takers q_takenSums q_order q_before q_roundSums r_carried c_samples c_isGiven c_gives c_colours c_many c_group c_row c_channelOf c_spreads c_boxMany c_there c_groupMany c_means c_sums c_palette c_has c_takers c_takenSums c_order c_before c_roundSums n_samples n_isGiven n_gives n_colours n_many n_group n_row n_channelOf n_spreads n_boxMany n_there n_groupMany n_means n_sums n_palette n_has n_takers n_takenSums n_order n_before n_roundSums f_thrown f_width f_height f_different f_groups f_rowSize f_ready f_size f_rounds f_samples f_isGiven f_gives f_colours f_many f_group f_row f_channelOf f_spreads f_boxMany f_there f_groupMany f_means f_sums f_palette_28 f_has_32 f_takers_33 f_takenSums_34 f_order_29 f_before_30 (vp_updL f_roundSums x3.toNatClampNeg r_23)) H := hP.sub [16, 17, 0, 1, 2, 3, 4, 5, 6, 7, 8, 9, 10, 11, 12, 18, 19, 20, 21, 13, 14, 15] rfl
        have hD : va_D A (wdMd_run q_this q_samples q_isGiven q_gives q_colours q_many q_group q_row q_channelOf q_spreads q_boxMany q_there q_groupMany q_means q_sums q_palette q_has q_takers q_takenSums q_order q_before q_roundSums r_carried c_samples c_isGiven c_gives c_colours c_many c_group c_row c_channelOf c_spreads c_boxMany c_there c_groupMany c_means c_sums c_palette c_has c_takers c_takenSums c_order c_before c_roundSums n_samples n_isGiven n_gives n_colours n_many n_group n_row n_channelOf n_spreads n_boxMany n_there n_groupMany n_means n_sums n_palette n_has n_takers n_takenSums n_order n_before n_roundSums f_thrown f_width f_height f_different f_groups f_rowSize f_ready f_size f_rounds f_samples f_isGiven f_gives f_colours f_many f_group f_row f_channelOf f_spreads f_boxMany f_there f_groupMany f_means f_sums f_palette_28 f_has_32 f_takers_33 f_takenSums_34 f_order_29 f_before_30 (vp_updL f_roundSums x3.toNatClampNeg r_23)) := hD.sub [16, 17, 0, 1, 2, 3, 4, 5, 6, 7, 8, 9, 10, 11, 12, 18, 19, 20, 21, 13, 14, 15] (by decide) rfl
        refine lv_lstore (lv' := [(4, .long r_35), (0, .ref q_this), (1, .int x1), (3, .int x3)]) hx hb dMd_run_124 hl (by decide) rfl (fun ls hl => ?_)
        exact j126 f_thrown f_different f_groups f_rowSize f_ready f_size f_rounds f_colours f_many f_group f_row f_channelOf f_spreads f_boxMany f_there f_groupMany f_means f_sums f_palette_28 f_has_32 f_takers_33 f_takenSums_34 f_order_29 f_before_30 (vp_updL f_roundSums x3.toNatClampNeg r_23) hv _ _ _ hP hD hS (lv_sub hl [1] rfl)
    · have hv := hv.2 c_19
      refine lv_aload_n hx hb dMd_run_80 rfl (lv_at hl 0 rfl) ?_
      refine va_get (D := (dC, dI)) (ci := 8) (v := .ref q_roundSums) (C := RMd) (T := TMd) (N := 31) hx hb hB hiMd hown hK hP 0 rfl rfl 29 (by decide) hL72 (fun _ h9 => h9) rfl dMd_run_81 ?_
      refine lv_iload hx hb dMd_run_84 (lv_at hl 3 rfl) ?_
      refine lv_aload_n hx hb dMd_run_86 rfl (lv_at hl 0 rfl) ?_
      have hFc := va_free (wc := (wdMd_take q_this q_samples q_palette q_has q_takers q_takenSums q_isGiven q_gives q_colours q_many q_group q_row q_channelOf q_spreads q_boxMany q_there q_groupMany q_means q_sums q_order q_before q_roundSums r_carried c_samples c_palette c_has c_takers c_takenSums n_samples n_palette n_has n_takers n_takenSums f_thrown f_width f_height f_different f_groups f_rowSize f_ready f_size f_rounds f_samples f_palette f_has f_takers f_takenSums)) hD hS hA [0, 1, 15, 16, 17, 18] rfl
      refine gx_l (wr := [(q_isGiven, .inl (c_isGiven, n_isGiven, .inl f_isGiven)), (q_gives, .inl (c_gives, n_gives, .inl f_gives)), (q_colours, .inl (c_colours, n_colours, .inl f_colours)), (q_many, .inl (c_many, n_many, .inl f_many)), (q_group, .inl (c_group, n_group, .inl f_group)), (q_row, .inl (c_row, n_row, .inl f_row)), (q_channelOf, .inl (c_channelOf, n_channelOf, .inl f_channelOf)), (q_spreads, .inl (c_spreads, n_spreads, .inl f_spreads)), (q_boxMany, .inl (c_boxMany, n_boxMany, .inl f_boxMany)), (q_there, .inl (c_there, n_there, .inl f_there)), (q_groupMany, .inl (c_groupMany, n_groupMany, .inr (.inl f_groupMany))), (q_means, .inl (c_means, n_means, .inl f_means)), (q_sums, .inl (c_sums, n_sums, .inr (.inl f_sums))), (q_order, .inl (c_order, n_order, .inl f_order)), (q_before, .inl (c_before, n_before, .inl f_before)), (q_roundSums, .inl (c_roundSums, n_roundSums, .inr (.inl f_roundSums)))]) (va_runV (As := []) (rest := [.int v4, .ref q_roundSums]) ⟨hx, hb, hml, hown, hB⟩ (metMd_take l dC dI q_this q_samples q_palette q_has q_takers q_takenSums q_isGiven q_gives q_colours q_many q_group q_row q_channelOf q_spreads q_boxMany q_there q_groupMany q_means q_sums q_order q_before q_roundSums r_carried c_samples c_palette c_has c_takers c_takenSums n_samples n_palette n_has n_takers n_takenSums H.size f_thrown f_width f_height f_different f_groups f_rowSize f_ready f_size f_rounds f_samples f_palette f_has f_takers f_takenSums hv) (cwV 0 hB (gx_gV bw756 bw757 bw37 bw53 bw758) rfl rfl rfl (by decide +kernel) ⟨(Nat.le_of_ble_eq_true rfl), (Nat.le_of_ble_eq_true rfl)⟩) (gx_preV (ci := 8) (hP.sub (ws' := (wdMd_take q_this q_samples q_palette q_has q_takers q_takenSums q_isGiven q_gives q_colours q_many q_group q_row q_channelOf q_spreads q_boxMany q_there q_groupMany q_means q_sums q_order q_before q_roundSums r_carried c_samples c_palette c_has c_takers c_takenSums n_samples n_palette n_has n_takers n_takenSums f_thrown f_width f_height f_different f_groups f_rowSize f_ready f_size f_rounds f_samples f_palette f_has f_takers f_takenSums)) [0, 1, 15, 16, 17, 18] rfl) (hK.sub (tys' := [(c_samples, .int), (c_palette, .int), (c_has, .int), (c_takers, .int), (c_takenSums, .long)]) [0, 14, 15, 16, 17] rfl) (hD.sub (ws' := (wdMd_take q_this q_samples q_palette q_has q_takers q_takenSums q_isGiven q_gives q_colours q_many q_group q_row q_channelOf q_spreads q_boxMany q_there q_groupMany q_means q_sums q_order q_before q_roundSums r_carried c_samples c_palette c_has c_takers c_takenSums n_samples n_palette n_has n_takers n_takenSums f_thrown f_width f_height f_different f_groups f_rowSize f_ready f_size f_rounds f_samples f_palette f_has f_takers f_takenSums)) [0, 1, 15, 16, 17, 18] (by decide) rfl) hZ hS hFc rfl rfl) rfl rfl hl.1 rfl (lv_room (Nat.le_of_ble_eq_true rfl)) dMd_run_87 ⟨(Nat.le_of_ble_eq_true rfl), (Nat.le_of_ble_eq_true rfl)⟩) hP hD hS hFc [0, 1, 15, 16, 17, 18] [2, 3, 4, 5, 6, 7, 8, 9, 10, 11, 12, 13, 14, 19, 20, 21] rfl rfl (by decide) (by decide) (fun r_40 u_41 H locs hv hP hD hS => ?_)
      obtain ⟨f_has_37, f_takers_38, f_takenSums_39⟩ := u_41
      have hP : va_P (dC, dI) vwCl (wdMd_run q_this q_samples q_isGiven q_gives q_colours q_many q_group q_row q_channelOf q_spreads q_boxMany q_there q_groupMany q_means q_sums q_palette q_has q_takers q_takenSums q_order q_before q_roundSums r_carried c_samples c_isGiven c_gives c_colours c_many c_group c_row c_channelOf c_spreads c_boxMany c_there c_groupMany c_means c_sums c_palette c_has c_takers c_takenSums c_order c_before c_roundSums n_samples n_isGiven n_gives n_colours n_many n_group n_row n_channelOf n_spreads n_boxMany n_there n_groupMany n_means n_sums n_palette n_has n_takers n_takenSums n_order n_before n_roundSums f_thrown f_width f_height f_different f_groups f_rowSize f_ready f_size f_rounds f_samples f_isGiven f_gives f_colours f_many f_group f_row f_channelOf f_spreads f_boxMany f_there f_groupMany f_means f_sums f_palette f_has_37 f_takers_38 f_takenSums_39 f_order f_before f_roundSums) H := hP.sub [16, 17, 0, 1, 2, 3, 4, 5, 6, 7, 8, 9, 10, 11, 12, 18, 19, 20, 21, 13, 14, 15] rfl
      have hD : va_D A (wdMd_run q_this q_samples q_isGiven q_gives q_colours q_many q_group q_row q_channelOf q_spreads q_boxMany q_there q_groupMany q_means q_sums q_palette q_has q_takers q_takenSums q_order q_before q_roundSums r_carried c_samples c_isGiven c_gives c_colours c_many c_group c_row c_channelOf c_spreads c_boxMany c_there c_groupMany c_means c_sums c_palette c_has c_takers c_takenSums c_order c_before c_roundSums n_samples n_isGiven n_gives n_colours n_many n_group n_row n_channelOf n_spreads n_boxMany n_there n_groupMany n_means n_sums n_palette n_has n_takers n_takenSums n_order n_before n_roundSums f_thrown f_width f_height f_different f_groups f_rowSize f_ready f_size f_rounds f_samples f_isGiven f_gives f_colours f_many f_group f_row f_channelOf f_spreads f_boxMany f_there f_groupMany f_means f_sums f_palette f_has_37 f_takers_38 f_takenSums_39 f_order f_before f_roundSums) := hD.sub [16, 17, 0, 1, 2, 3, 4, 5, 6, 7, 8, 9, 10, 11, 12, 18, 19, 20, 21, 13, 14, 15] (by decide) rfl
      obtain ⟨h_42, hv⟩ := hv
      refine va_last hx hb hK hP hD hS 21 20 rfl rfl h_42 dMd_run_90 (fun H locs hP hD hS => ?_)
      have hP : va_P (dC, dI) vwCl (wdMd_run q_this q_samples q_isGiven q_gives q_colours q_many q_group q_row q_channelOf q_spreads q_boxMany q_there q_groupMany q_means q_sums q_palette q_has q_takers q_takenSums q_order q_before q_roundSums r_carried c_samples c_isGiven c_gives c_colours c_many c_group c_row c_channelOf c_spreads c_boxMany c_there c_groupMany c_means c_sums c_palette c_has c_takers c_takenSums c_order c_before c_roundSums n_samples n_isGiven n_gives n_colours n_many n_group n_row n_channelOf n_spreads n_boxMany n_there n_groupMany n_means n_sums n_palette n_has n_takers n_takenSums n_order n_before n_roundSums f_thrown f_width f_height f_different f_groups f_rowSize f_ready f_size f_rounds f_samples f_isGiven f_gives f_colours f_many f_group f_row f_channelOf f_spreads f_boxMany f_there f_groupMany f_means f_sums f_palette f_has_37 f_takers_38 f_takenSums_39 f_order f_before (vp_updL f_roundSums v4.toNatClampNeg r_40)) H := hP
      have hD : va_D A (wdMd_run q_this q_samples q_isGiven q_gives q_colours q_many q_group q_row q_channelOf q_spreads q_boxMany q_there q_groupMany q_means q_sums q_palette q_has q_takers q_takenSums q_order q_before q_roundSums r_carried c_samples c_isGiven c_gives c_colours c_many c_group c_row c_channelOf c_spreads c_boxMany c_there c_groupMany c_means c_sums c_palette c_has c_takers c_takenSums c_order c_before c_roundSums n_samples n_isGiven n_gives n_colours n_many n_group n_row n_channelOf n_spreads n_boxMany n_there n_groupMany n_means n_sums n_palette n_has n_takers n_takenSums n_order n_before n_roundSums f_thrown f_width f_height f_different f_groups f_rowSize f_ready f_size f_rounds f_samples f_isGiven f_gives f_colours f_many f_group f_row f_channelOf f_spreads f_boxMany f_there f_groupMany f_means f_sums f_palette f_has_37 f_takers_38 f_takenSums_39 f_order f_before (vp_updL f_roundSums v4.toNatClampNeg r_40)) := hD
      refine lv_aload_n hx hb dMd_run_91 rfl (lv_at hl 0 rfl) ?_
      have hFc := va_free (wc := (wdMd_toMeans q_this q_palette q_takers q_takenSums q_samples q_isGiven q_gives q_colours q_many q_group q_row q_channelOf q_spreads q_boxMany q_there q_groupMany q_means q_sums q_has q_order q_before q_roundSums r_carried c_palette c_takers c_takenSums n_palette n_takers n_takenSums f_thrown f_width f_height f_different f_groups f_rowSize f_ready f_size f_rounds f_palette f_takers_38 f_takenSums_39)) hD hS hA [0, 15, 17, 18] rfl
      refine gx_v (wr := [(q_samples, .inl (c_samples, n_samples, .inl f_samples)), (q_isGiven, .inl (c_isGiven, n_isGiven, .inl f_isGiven)), (q_gives, .inl (c_gives, n_gives, .inl f_gives)), (q_colours, .inl (c_colours, n_colours, .inl f_colours)), (q_many, .inl (c_many, n_many, .inl f_many)), (q_group, .inl (c_group, n_group, .inl f_group)), (q_row, .inl (c_row, n_row, .inl f_row)), (q_channelOf, .inl (c_channelOf, n_channelOf, .inl f_channelOf)), (q_spreads, .inl (c_spreads, n_spreads, .inl f_spreads)), (q_boxMany, .inl (c_boxMany, n_boxMany, .inl f_boxMany)), (q_there, .inl (c_there, n_there, .inl f_there)), (q_groupMany, .inl (c_groupMany, n_groupMany, .inr (.inl f_groupMany))), (q_means, .inl (c_means, n_means, .inl f_means)), (q_sums, .inl (c_sums, n_sums, .inr (.inl f_sums))), (q_has, .inl (c_has, n_has, .inl f_has_37)), (q_order, .inl (c_order, n_order, .inl f_order)), (q_before, .inl (c_before, n_before, .inl f_before)), (q_roundSums, .inl (c_roundSums, n_roundSums, .inr (.inl (vp_updL f_roundSums v4.toNatClampNeg r_40))))]) (va_runV (As := []) (rest := []) ⟨hx, hb, hml, hown, hB⟩ (metMd_toMeans l dC dI q_this q_palette q_takers q_takenSums q_samples q_isGiven q_gives q_colours q_many q_group q_row q_channelOf q_spreads q_boxMany q_there q_groupMany q_means q_sums q_has q_order q_before q_roundSums r_carried c_palette c_takers c_takenSums n_palette n_takers n_takenSums H.size f_thrown f_width f_height f_different f_groups f_rowSize f_ready f_size f_rounds f_palette f_takers_38 f_takenSums_39 hv) (cwV 0 hB (gx_gV bw762 bw763 bw39 bw53 bw764) rfl rfl rfl (by decide +kernel) ⟨(Nat.le_of_ble_eq_true rfl), (Nat.le_of_ble_eq_true rfl)⟩) (gx_preV (ci := 8) (hP.sub (ws' := (wdMd_toMeans q_this q_palette q_takers q_takenSums q_samples q_isGiven q_gives q_colours q_many q_group q_row q_channelOf q_spreads q_boxMany q_there q_groupMany q_means q_sums q_has q_order q_before q_roundSums r_carried c_palette c_takers c_takenSums n_palette n_takers n_takenSums f_thrown f_width f_height f_different f_groups f_rowSize f_ready f_size f_rounds f_palette f_takers_38 f_takenSums_39)) [0, 15, 17, 18] rfl) (hK.sub (tys' := [(c_palette, .int), (c_takers, .int), (c_takenSums, .long)]) [14, 16, 17] rfl) (hD.sub (ws' := (wdMd_toMeans q_this q_palette q_takers q_takenSums q_samples q_isGiven q_gives q_colours q_many q_group q_row q_channelOf q_spreads q_boxMany q_there q_groupMany q_means q_sums q_has q_order q_before q_roundSums r_carried c_palette c_takers c_takenSums n_palette n_takers n_takenSums f_thrown f_width f_height f_different f_groups f_rowSize f_ready f_size f_rounds f_palette f_takers_38 f_takenSums_39)) [0, 15, 17, 18] (by decide) rfl) hZ hS hFc rfl rfl) rfl rfl hl.1 rfl (lv_room (Nat.le_of_ble_eq_true rfl)) dMd_run_92 ⟨(Nat.le_of_ble_eq_true rfl), (Nat.le_of_ble_eq_true rfl)⟩) hP hD hS hFc [0, 15, 17, 18] [1, 2, 3, 4, 5, 6, 7, 8, 9, 10, 11, 12, 13, 14, 16, 19, 20, 21] rfl rfl (by decide) (by decide) (fun u_45 H locs hv hP hD hS => ?_)
      obtain ⟨f_palette_44, rfl⟩ : ∃ z, z = u_45 := ⟨_, rfl⟩
      have hP : va_P (dC, dI) vwCl (wdMd_run q_this q_samples q_isGiven q_gives q_colours q_many q_group q_row q_channelOf q_spreads q_boxMany q_there q_groupMany q_means q_sums q_palette q_has q_takers q_takenSums q_order q_before q_roundSums r_carried c_samples c_isGiven c_gives c_colours c_many c_group c_row c_channelOf c_spreads c_boxMany c_there c_groupMany c_means c_sums c_palette c_has c_takers c_takenSums c_order c_before c_roundSums n_samples n_isGiven n_gives n_colours n_many n_group n_row n_channelOf n_spreads n_boxMany n_there n_groupMany n_means n_sums n_palette n_has n_takers n_takenSums n_order n_before n_roundSums f_thrown f_width f_height f_different f_groups f_rowSize f_ready f_size f_rounds f_samples f_isGiven f_gives f_colours f_many f_group f_row f_channelOf f_spreads f_boxMany f_there f_groupMany f_means f_sums f_palette_44 f_has_37 f_takers_38 f_takenSums_39 f_order f_before (vp_updL f_roundSums v4.toNatClampNeg r_40)) H := hP.sub [18, 0, 1, 2, 3, 4, 5, 6, 7, 8, 9, 10, 11, 12, 13, 19, 14, 20, 21, 15, 16, 17] rfl
      have hD : va_D A (wdMd_run q_this q_samples q_isGiven q_gives q_colours q_many q_group q_row q_channelOf q_spreads q_boxMany q_there q_groupMany q_means q_sums q_palette q_has q_takers q_takenSums q_order q_before q_roundSums r_carried c_samples c_isGiven c_gives c_colours c_many c_group c_row c_channelOf c_spreads c_boxMany c_there c_groupMany c_means c_sums c_palette c_has c_takers c_takenSums c_order c_before c_roundSums n_samples n_isGiven n_gives n_colours n_many n_group n_row n_channelOf n_spreads n_boxMany n_there n_groupMany n_means n_sums n_palette n_has n_takers n_takenSums n_order n_before n_roundSums f_thrown f_width f_height f_different f_groups f_rowSize f_ready f_size f_rounds f_samples f_isGiven f_gives f_colours f_many f_group f_row f_channelOf f_spreads f_boxMany f_there f_groupMany f_means f_sums f_palette_44 f_has_37 f_takers_38 f_takenSums_39 f_order f_before (vp_updL f_roundSums v4.toNatClampNeg r_40)) := hD.sub [18, 0, 1, 2, 3, 4, 5, 6, 7, 8, 9, 10, 11, 12, 13, 19, 14, 20, 21, 15, 16, 17] (by decide) rfl
      refine lv_iinc (v := v4 + 1) (lv' := [(4, .int (v4 + 1)), (0, .ref q_this), (1, .int x1), (3, .int x3)]) hx hb dMd_run_95 hl (k := 3) rfl rfl (by decide) rfl (fun ls hl => ?_)
      refine lv_goto (tgt := 74) hx hb dMd_run_98 (by decide) ?_
      rw [eK74, eG] at hv
      exact hv _ _ _ hP hD hS (lv_sub hl [1, 2, 3, 0] rfl))
  rw [eG]
  refine lv_aload_n hx hb dMd_run_0 rfl (lv_at hl 0 rfl) ?_
  refine lv_iload_n hx hb dMd_run_1 rfl (lv_at hl 1 rfl) ?_
  refine lv_if_lt (tgt := 43) hx hb dMd_run_2 (by decide) (fun c_46 => ?_) (fun c_46 => ?_)
  · have hv := hv.1 c_46
    exact j43  hv _ _ _ hP hD hS (lv_sub hl [0, 1, 2, 3] rfl)
  · have hv := hv.2 c_46
    refine lv_iload_n hx hb dMd_run_5 rfl (lv_at hl 1 rfl) ?_
    refine lv_iconst (v := 2) hx hb dMd_run_6 (by decide) ?_
    refine lv_icmp_gt (tgt := 43) hx hb dMd_run_7 (by decide) (fun c_47 => ?_) (fun c_47 => ?_)
    · have hv := hv.1 c_47
      exact j43  hv _ _ _ hP hD hS (lv_sub hl [0, 1, 2, 3] rfl)
    · have hv := hv.2 c_47
      refine lv_iload_n hx hb dMd_run_10 rfl (lv_at hl 2 rfl) ?_
      refine lv_iconst (v := 1) hx hb dMd_run_11 (by decide) ?_
      refine lv_icmp_lt (tgt := 43) hx hb dMd_run_12 (by decide) (fun c_48 => ?_) (fun c_48 => ?_)
      · have hv := hv.1 c_48
        exact j43  hv _ _ _ hP hD hS (lv_sub hl [0, 1, 2, 3] rfl)
      · have hv := hv.2 c_48
        refine lv_iload_n hx hb dMd_run_15 rfl (lv_at hl 2 rfl) ?_
        refine lv_bipush (v := 64) hx hb dMd_run_16 (by decide) ?_
        refine lv_icmp_gt (tgt := 43) hx hb dMd_run_18 (by decide) (fun c_49 => ?_) (fun c_49 => ?_)
        · have hv := hv.1 c_49
          exact j43  hv _ _ _ hP hD hS (lv_sub hl [0, 1, 2, 3] rfl)
        · have hv := hv.2 c_49
          refine lv_iload_n hx hb dMd_run_21 rfl (lv_at hl 3 rfl) ?_
          refine lv_if_lt (tgt := 43) hx hb dMd_run_22 (by decide) (fun c_50 => ?_) (fun c_50 => ?_)
          · have hv := hv.1 c_50
            exact j43  hv _ _ _ hP hD hS (lv_sub hl [0, 1, 2, 3] rfl)
          · have hv := hv.2 c_50
            refine lv_iload_n hx hb dMd_run_25 rfl (lv_at hl 3 rfl) ?_
            refine lv_bipush (v := 20) hx hb dMd_run_26 (by decide) ?_
            refine lv_icmp_gt (tgt := 43) hx hb dMd_run_28 (by decide) (fun c_51 => ?_) (fun c_51 => ?_)
            · have hv := hv.1 c_51
              exact j43  hv _ _ _ hP hD hS (lv_sub hl [0, 1, 2, 3] rfl)
            · have hv := hv.2 c_51
              refine lv_iload_n hx hb dMd_run_31 rfl (lv_at hl 1 rfl) ?_
              refine lv_iconst (v := 2) hx hb dMd_run_32 (by decide) ?_
              refine lv_icmp_ne (tgt := 47) hx hb dMd_run_33 (by decide) (fun c_52 => ?_) (fun c_52 => ?_)
              · have hv := hv.1 c_52
                exact j47  hv _ _ _ hP hD hS (lv_sub hl [0, 1, 2, 3] rfl)
              · have hv := hv.2 c_52
                refine lv_aload_n hx hb dMd_run_36 rfl (lv_at hl 0 rfl) ?_
                refine gx_ri (va_runV (As := []) (rest := [.ref q_this]) ⟨hx, hb, hml, hown, hB⟩ (metMd_givenCount l dC dI q_this q_isGiven q_samples q_gives q_colours q_many q_group q_row q_channelOf q_spreads q_boxMany q_there q_groupMany q_means q_sums q_palette q_has q_takers q_takenSums q_order q_before q_roundSums r_carried c_isGiven n_isGiven s.heap.size f_thrown f_width f_height f_different f_groups f_rowSize f_ready f_size f_rounds f_isGiven hv) (cwV 0 hB (gx_gV bw706 bw707 bw25 bw53 bw708) rfl rfl rfl (by decide +kernel) ⟨(Nat.le_of_ble_eq_true rfl), (Nat.le_of_ble_eq_true rfl)⟩) (gx_rpreV (ci := 8) (hP.sub (ws' := (wdMd_givenCount q_this q_isGiven q_samples q_gives q_colours q_many q_group q_row q_channelOf q_spreads q_boxMany q_there q_groupMany q_means q_sums q_palette q_has q_takers q_takenSums q_order q_before q_roundSums r_carried c_isGiven n_isGiven f_thrown f_width f_height f_different f_groups f_rowSize f_ready f_size f_rounds f_isGiven)) [0, 2] rfl) (hK.sub (tys' := [(c_isGiven, .boolean)]) [1] rfl) hZ hS hA rfl rfl) rfl rfl hl.1 rfl (lv_room (Nat.le_of_ble_eq_true rfl)) dMd_run_37 ⟨(Nat.le_of_ble_eq_true rfl), (Nat.le_of_ble_eq_true rfl)⟩) hP hS hA (fun r_53 H locs hv hP hS => ?_)
                refine lv_if_ne (tgt := 47) hx hb dMd_run_40 (by decide) (fun c_55 => ?_) (fun c_55 => ?_)
                · have hv := hv.1 c_55
                  exact j47  hv _ _ _ hP hD hS (lv_sub hl [0, 1, 2, 3] rfl)
                · have hv := hv.2 c_55
                  exact j43  hv _ _ _ hP hD hS (lv_sub hl [0, 1, 2, 3] rfl)
abbrev wdMd_tells (q_this r_samples r_isGiven r_gives r_colours r_many r_group r_row r_channelOf r_spreads r_boxMany r_there r_groupMany r_means r_sums r_palette r_has r_takers r_takenSums r_order r_before r_roundSums r_carried : Nat) (f_thrown : Int32) (f_width : Int32) (f_height : Int32) (f_different : Int32) (f_groups : Int32) (f_rowSize : Int32) (f_ready : Int32) (f_size : Int32) (f_rounds : Int32) : va_W := [(q_this, .inr (8, [.int f_thrown, .int f_width, .int f_height, .ref r_samples, .ref r_isGiven, .ref r_gives, .int f_different, .ref r_colours, .ref r_many, .ref r_group, .int f_groups, .ref r_row, .int f_rowSize, .ref r_channelOf, .ref r_spreads, .ref r_boxMany, .ref r_there, .ref r_groupMany, .ref r_means, .ref r_sums, .int f_ready, .int f_size, .ref r_palette, .ref r_has, .ref r_takers, .ref r_takenSums, .ref r_order, .ref r_before, .int f_rounds, .ref r_roundSums, .ref r_carried]))]
set_option maxHeartbeats 4000000 in
set_option maxRecDepth 100000 in
theorem metMd_tells (l : Launch) (dC : Nat → ClassId) (dI : Nat → Nat → Nat) (q_this r_samples r_isGiven r_gives r_colours r_many r_group r_row r_channelOf r_spreads r_boxMany r_there r_groupMany r_means r_sums r_palette r_has r_takers r_takenSums r_order r_before r_roundSums r_carried : Nat) (sz : Nat) (f_thrown : Int32) (f_width : Int32) (f_height : Int32) (f_different : Int32) (f_groups : Int32) (f_rowSize : Int32) (f_ready : Int32) (f_size : Int32) (f_rounds : Int32) (x1 : Int32) {post : Int32 → Int32 → Prop} (hw : wpMd_tells f_thrown f_width f_height f_different f_groups f_rowSize f_ready f_size f_rounds x1 post) : Met l yMd_tells (.code yMd_tells bMd_tells 2 (some .boolean) :: BIG) ({ frames := 0, cells := 0, slots := 0, locals := 0 }) (va_Pc [.ref q_this, .int x1] (gx_pre (dC, dI) vwCl (wdMd_tells q_this r_samples r_isGiven r_gives r_colours r_many r_group r_row r_channelOf r_spreads r_boxMany r_there r_groupMany r_means r_sums r_palette r_has r_takers r_takenSums r_order r_before r_roundSums r_carried f_thrown f_width f_height f_different f_groups f_rowSize f_ready f_size f_rounds) [] sz)) (va_Qi (fun r (u : Int32) => post r u) (gx_B (dC, dI) vwCl (va_A (wdMd_tells q_this r_samples r_isGiven r_gives r_colours r_many r_group r_row r_channelOf r_spreads r_boxMany r_there r_groupMany r_means r_sums r_palette r_has r_takers r_takenSums r_order r_before r_roundSums r_carried f_thrown f_width f_height f_different f_groups f_rowSize f_ready f_size f_rounds) sz) (fun (u : Int32) => (wdMd_tells q_this r_samples r_isGiven r_gives r_colours r_many r_group r_row r_channelOf r_spreads r_boxMany r_there r_groupMany r_means r_sums r_palette r_has r_takers r_takenSums r_order r_before r_roundSums r_carried u f_width f_height f_different f_groups f_rowSize f_ready f_size f_rounds))) (va_A (wdMd_tells q_this r_samples r_isGiven r_gives r_colours r_many r_group r_row r_channelOf r_spreads r_boxMany r_there r_groupMany r_means r_sums r_palette r_has r_takers r_takenSums r_order r_before r_roundSums r_carried f_thrown f_width f_height f_different f_groups f_rowSize f_ready f_size f_rounds) sz)) 0 0 (va_A (wdMd_tells q_this r_samples r_isGiven r_gives r_colours r_many r_group r_row r_channelOf r_spreads r_boxMany r_there r_groupMany r_means r_sums r_palette r_has r_takers r_takenSums r_order r_before r_roundSums r_carried f_thrown f_width f_height f_different f_groups f_rowSize f_ready f_size f_rounds) sz) := by
  refine Met.ofW (cc := bMd_tells) (maxL := 2) (ret := (some .boolean)) (by decide) rfl ?_
  intro p e s m args below meth c s₁ B hml hv
  obtain ⟨rfl, hsz, hP, hK, hD0, hZ⟩ := hv
  have hx := B.exec
  have hb := B.bytes
  have hr := B.returns
  have hts := atoms_spec (ws := (.code yMd_tells bMd_tells 2 (some .boolean) :: BIG)) B.pre
  have hB : ∀ w ∈ BIG, w.before _ s = true := fun w h => hts w (List.mem_cons_of_mem _ h)
  have hown : s.vm.findClass RMd = some m.cls := findClass_of_methodNamed B.named
  have hlocks := B.notSynchronized
  subst hsz
  have hD := hD0.self (sz := s.heap.size)
  generalize hAe : va_A (wdMd_tells q_this r_samples r_isGiven r_gives r_colours r_many r_group r_row r_channelOf r_spreads r_boxMany r_there r_groupMany r_means r_sums r_palette r_has r_takers r_takenSums r_order r_before r_roundSums r_carried f_thrown f_width f_height f_different f_groups f_rowSize f_ready f_size f_rounds) s.heap.size = A at hD hZ ⊢
  have hA : ∀ q : Nat, s.heap.size ≤ q → A q := fun q h => by rw [← hAe]; exact Or.inr h
  have hS : va_S A s.heap s.heap [] := va_S.rf
  have hl := lv_entry ([.ref q_this, .int x1]) (n := 2) (Nat.le_of_ble_eq_true rfl)
  rw [lg_entry_eq]
  generalize (lg_sl ([.ref q_this, .int x1]) ++ List.replicate (2 - (lg_sl ([.ref q_this, .int x1])).length) Slot.unset).toArray = ls at hl ⊢
  have hl : lv_has ls 2 [(0, .ref q_this), (1, .int x1)] := hl
  have hL85 := (hB _ bw615)
  have hL100 := (hB _ bw635)
  refine gx_abs (fun G eG => ?_)
  have j36 : ∀ (s0 : Int32) (f_thrown : Int32), vcMd_tells_36 f_width f_height f_different f_groups f_rowSize f_ready f_size f_rounds x1 post s0 f_thrown → ∀ (H : Heap) (locs : List Loc) (ls : Array Slot), va_P (dC, dI) vwCl (wdMd_tells q_this r_samples r_isGiven r_gives r_colours r_many r_group r_row r_channelOf r_spreads r_boxMany r_there r_groupMany r_means r_sums r_palette r_has r_takers r_takenSums r_order r_before r_roundSums r_carried f_thrown f_width f_height f_different f_groups f_rowSize f_ready f_size f_rounds) H → va_D A (wdMd_tells q_this r_samples r_isGiven r_gives r_colours r_many r_group r_row r_channelOf r_spreads r_boxMany r_there r_groupMany r_means r_sums r_palette r_has r_takers r_takenSums r_order r_before r_roundSums r_carried f_thrown f_width f_height f_different f_groups f_rowSize f_ready f_size f_rounds) → va_S A s.heap H locs → lv_has ls 2 [] → G H locs 0 0 (F0 m 36 ls [.int s0]) := by
    intro s0 f_thrown hv H locs ls hP hD hS hl
    rw [eG]
    unfold vcMd_tells_36 at hv
    obtain ⟨h_1, hv⟩ := hv
    exact W.zret (v := s0) hx hb hr h_1 (fun t ht hW => ⟨⟨_, f_thrown, rfl, hv, by rw [ht]; exact hP, hD⟩, hS.F ht⟩) hS.2.2 dMd_tells_36
  rw [eG] at j36
  have j21 : ∀ (s0 : Int32), vcMd_tells_21 f_width f_height f_different f_groups f_rowSize f_ready f_size f_rounds x1 post s0 f_thrown → ∀ (H : Heap) (locs : List Loc) (ls : Array Slot), va_P (dC, dI) vwCl (wdMd_tells q_this r_samples r_isGiven r_gives r_colours r_many r_group r_row r_channelOf r_spreads r_boxMany r_there r_groupMany r_means r_sums r_palette r_has r_takers r_takenSums r_order r_before r_roundSums r_carried f_thrown f_width f_height f_different f_groups f_rowSize f_ready f_size f_rounds) H → va_D A (wdMd_tells q_this r_samples r_isGiven r_gives r_colours r_many r_group r_row r_channelOf r_spreads r_boxMany r_there r_groupMany r_means r_sums r_palette r_has r_takers r_takenSums r_order r_before r_roundSums r_carried f_thrown f_width f_height f_different f_groups f_rowSize f_ready f_size f_rounds) → va_S A s.heap H locs → lv_has ls 2 [(0, .ref q_this)] → G H locs 0 0 (F0 m 21 ls [.int s0, .ref q_this]) := by
    intro s0 hv H locs ls hP hD hS hl
    rw [eG]
    unfold vcMd_tells_21 at hv
    refine va_put (D := (dC, dI)) (ci := 8) (v := .int s0) (ty := .int) (C := RMd) (T := TMd) (N := 31) hx hb hB hiMd tMd tMd_ok nMd hown hK hP hD hS 0 rfl rfl 0 (by decide) hL85 (fun _ h9 => h9) rfl (by decide +kernel) rfl rfl (Nat.le_of_ble_eq_true rfl) dMd_tells_21 (fun H locs hP hD hS => ?_)
    have hP : va_P (dC, dI) vwCl (wdMd_tells q_this r_samples r_isGiven r_gives r_colours r_many r_group r_row r_channelOf r_spreads r_boxMany r_there r_groupMany r_means r_sums r_palette r_has r_takers r_takenSums r_order r_before r_roundSums r_carried s0 f_width f_height f_different f_groups f_rowSize f_ready f_size f_rounds) H := hP
    have hD : va_D A (wdMd_tells q_this r_samples r_isGiven r_gives r_colours r_many r_group r_row r_channelOf r_spreads r_boxMany r_there r_groupMany r_means r_sums r_palette r_has r_takers r_takenSums r_order r_before r_roundSums r_carried s0 f_width f_height f_different f_groups f_rowSize f_ready f_size f_rounds) := hD
    refine lv_aload_n hx hb dMd_tells_24 rfl (lv_at hl 0 rfl) ?_
    refine va_get (D := (dC, dI)) (ci := 8) (v := .int s0) (C := RMd) (T := TMd) (N := 31) hx hb hB hiMd hown hK hP 0 rfl rfl 0 (by decide) hL85 (fun _ h9 => h9) rfl dMd_tells_25 ?_
    refine lv_if_ne (tgt := 35) hx hb dMd_tells_28 (by decide) (fun c_2 => ?_) (fun c_2 => ?_)
    · have hv := hv.1 c_2
      refine lv_iconst (v := 0) hx hb dMd_tells_35 (by decide) ?_
      exact j36 0 s0 hv _ _ _ hP hD hS (lv_sub hl [] rfl)
    · have hv := hv.2 c_2
      refine lv_iconst (v := 1) hx hb dMd_tells_31 (by decide) ?_
      refine lv_goto (tgt := 36) hx hb dMd_tells_32 (by decide) ?_
      exact j36 1 s0 hv _ _ _ hP hD hS (lv_sub hl [] rfl)
  rw [eG] at j21
  unfold wpMd_tells at hw
  have hv := hw
  rw [eG]
  refine lv_aload_n hx hb dMd_tells_0 rfl (lv_at hl 0 rfl) ?_
  refine lv_aload_n hx hb dMd_tells_1 rfl (lv_at hl 0 rfl) ?_
  refine va_get (D := (dC, dI)) (ci := 8) (v := .int f_ready) (C := RMd) (T := TMd) (N := 31) hx hb hB hiMd hown hK hP 0 rfl rfl 20 (by decide) hL100 (fun _ h9 => h9) rfl dMd_tells_2 ?_
  refine lv_if_ne (tgt := 12) hx hb dMd_tells_5 (by decide) (fun c_3 => ?_) (fun c_3 => ?_)
  · have hv := hv.1 c_3
    refine lv_iload_n hx hb dMd_tells_12 rfl (lv_at hl 1 rfl) ?_
    refine lv_if_eq (tgt := 20) hx hb dMd_tells_13 (by decide) (fun c_4 => ?_) (fun c_4 => ?_)
    · have hv := hv.1 c_4
      refine lv_iconst (v := 2) hx hb dMd_tells_20 (by decide) ?_
      exact j21 2 hv _ _ _ hP hD hS (lv_sub hl [0] rfl)
    · have hv := hv.2 c_4
      refine lv_iconst (v := 0) hx hb dMd_tells_16 (by decide) ?_
      refine lv_goto (tgt := 21) hx hb dMd_tells_17 (by decide) ?_
      exact j21 0 hv _ _ _ hP hD hS (lv_sub hl [0] rfl)
  · have hv := hv.2 c_3
    refine lv_iconst (v := 1) hx hb dMd_tells_8 (by decide) ?_
    refine lv_goto (tgt := 21) hx hb dMd_tells_9 (by decide) ?_
    exact j21 1 hv _ _ _ hP hD hS (lv_sub hl [0] rfl)
abbrev wdMd_colour (q_this q_palette r_samples r_isGiven r_gives r_colours r_many r_group r_row r_channelOf r_spreads r_boxMany r_there r_groupMany r_means r_sums r_has r_takers r_takenSums r_order r_before r_roundSums r_carried : Nat) (c_palette : ClassId) (n_palette : Nat) (f_thrown : Int32) (f_width : Int32) (f_height : Int32) (f_different : Int32) (f_groups : Int32) (f_rowSize : Int32) (f_ready : Int32) (f_size : Int32) (f_rounds : Int32) (f_palette : Nat → Int32) : va_W := [(q_this, .inr (8, [.int f_thrown, .int f_width, .int f_height, .ref r_samples, .ref r_isGiven, .ref r_gives, .int f_different, .ref r_colours, .ref r_many, .ref r_group, .int f_groups, .ref r_row, .int f_rowSize, .ref r_channelOf, .ref r_spreads, .ref r_boxMany, .ref r_there, .ref r_groupMany, .ref r_means, .ref r_sums, .int f_ready, .int f_size, .ref q_palette, .ref r_has, .ref r_takers, .ref r_takenSums, .ref r_order, .ref r_before, .int f_rounds, .ref r_roundSums, .ref r_carried])), (q_palette, .inl (c_palette, n_palette, .inl f_palette))]
set_option maxHeartbeats 4000000 in
set_option maxRecDepth 100000 in
theorem metMd_colour (l : Launch) (dC : Nat → ClassId) (dI : Nat → Nat → Nat) (q_this q_palette r_samples r_isGiven r_gives r_colours r_many r_group r_row r_channelOf r_spreads r_boxMany r_there r_groupMany r_means r_sums r_has r_takers r_takenSums r_order r_before r_roundSums r_carried : Nat) (c_palette : ClassId) (n_palette : Nat) (sz : Nat) (f_thrown : Int32) (f_width : Int32) (f_height : Int32) (f_different : Int32) (f_groups : Int32) (f_rowSize : Int32) (f_ready : Int32) (f_size : Int32) (f_rounds : Int32) (f_palette : Nat → Int32) (x1 : Int32) (x2 : Int32) {post : Int32 → Int32 → Prop} (hw : wpMd_colour n_palette f_thrown f_width f_height f_different f_groups f_rowSize f_ready f_size f_rounds f_palette x1 x2 post) : Met l yMd_colour (.code yMd_colour bMd_colour 3 (some .int) :: BIG) ({ frames := 1, cells := 0, slots := 0, locals := 21 }) (va_Pc [.ref q_this, .int x1, .int x2] (gx_pre (dC, dI) vwCl (wdMd_colour q_this q_palette r_samples r_isGiven r_gives r_colours r_many r_group r_row r_channelOf r_spreads r_boxMany r_there r_groupMany r_means r_sums r_has r_takers r_takenSums r_order r_before r_roundSums r_carried c_palette n_palette f_thrown f_width f_height f_different f_groups f_rowSize f_ready f_size f_rounds f_palette) [(c_palette, .int)] sz)) (va_Qi (fun r (u : Int32) => post r u) (gx_B (dC, dI) vwCl (va_A (wdMd_colour q_this q_palette r_samples r_isGiven r_gives r_colours r_many r_group r_row r_channelOf r_spreads r_boxMany r_there r_groupMany r_means r_sums r_has r_takers r_takenSums r_order r_before r_roundSums r_carried c_palette n_palette f_thrown f_width f_height f_different f_groups f_rowSize f_ready f_size f_rounds f_palette) sz) (fun (u : Int32) => (wdMd_colour q_this q_palette r_samples r_isGiven r_gives r_colours r_many r_group r_row r_channelOf r_spreads r_boxMany r_there r_groupMany r_means r_sums r_has r_takers r_takenSums r_order r_before r_roundSums r_carried c_palette n_palette u f_width f_height f_different f_groups f_rowSize f_ready f_size f_rounds f_palette))) (va_A (wdMd_colour q_this q_palette r_samples r_isGiven r_gives r_colours r_many r_group r_row r_channelOf r_spreads r_boxMany r_there r_groupMany r_means r_sums r_has r_takers r_takenSums r_order r_before r_roundSums r_carried c_palette n_palette f_thrown f_width f_height f_different f_groups f_rowSize f_ready f_size f_rounds f_palette) sz)) 0 0 (va_A (wdMd_colour q_this q_palette r_samples r_isGiven r_gives r_colours r_many r_group r_row r_channelOf r_spreads r_boxMany r_there r_groupMany r_means r_sums r_has r_takers r_takenSums r_order r_before r_roundSums r_carried c_palette n_palette f_thrown f_width f_height f_different f_groups f_rowSize f_ready f_size f_rounds f_palette) sz) := by
  refine Met.ofW (cc := bMd_colour) (maxL := 3) (ret := (some .int)) (by decide) rfl ?_
  intro p e s m args below meth c s₁ B hml hv
  obtain ⟨rfl, hsz, hP, hK, hD0, hZ⟩ := hv
  have hx := B.exec
  have hb := B.bytes
  have hr := B.returns
  have hts := atoms_spec (ws := (.code yMd_colour bMd_colour 3 (some .int) :: BIG)) B.pre
  have hB : ∀ w ∈ BIG, w.before _ s = true := fun w h => hts w (List.mem_cons_of_mem _ h)
  have hown : s.vm.findClass RMd = some m.cls := findClass_of_methodNamed B.named
  have hlocks := B.notSynchronized
  subst hsz
  have hD := hD0.self (sz := s.heap.size)
  generalize hAe : va_A (wdMd_colour q_this q_palette r_samples r_isGiven r_gives r_colours r_many r_group r_row r_channelOf r_spreads r_boxMany r_there r_groupMany r_means r_sums r_has r_takers r_takenSums r_order r_before r_roundSums r_carried c_palette n_palette f_thrown f_width f_height f_different f_groups f_rowSize f_ready f_size f_rounds f_palette) s.heap.size = A at hD hZ ⊢
  have hA : ∀ q : Nat, s.heap.size ≤ q → A q := fun q h => by rw [← hAe]; exact Or.inr h
  have hS : va_S A s.heap s.heap [] := va_S.rf
  have hl := lv_entry ([.ref q_this, .int x1, .int x2]) (n := 3) (Nat.le_of_ble_eq_true rfl)
  rw [lg_entry_eq]
  generalize (lg_sl ([.ref q_this, .int x1, .int x2]) ++ List.replicate (3 - (lg_sl ([.ref q_this, .int x1, .int x2])).length) Slot.unset).toArray = ls at hl ⊢
  have hl : lv_has ls 3 [(0, .ref q_this), (1, .int x1), (2, .int x2)] := hl
  have hL54 := (hB _ bw637)
  have hL158 := (hB _ bw636)
  refine gx_abs (fun G eG => ?_)
  have j47 : ∀ (s0 : Int32) (f_thrown : Int32), vcMd_colour_47 n_palette f_width f_height f_different f_groups f_rowSize f_ready f_size f_rounds f_palette x1 x2 post s0 f_thrown → ∀ (H : Heap) (locs : List Loc) (ls : Array Slot), va_P (dC, dI) vwCl (wdMd_colour q_this q_palette r_samples r_isGiven r_gives r_colours r_many r_group r_row r_channelOf r_spreads r_boxMany r_there r_groupMany r_means r_sums r_has r_takers r_takenSums r_order r_before r_roundSums r_carried c_palette n_palette f_thrown f_width f_height f_different f_groups f_rowSize f_ready f_size f_rounds f_palette) H → va_D A (wdMd_colour q_this q_palette r_samples r_isGiven r_gives r_colours r_many r_group r_row r_channelOf r_spreads r_boxMany r_there r_groupMany r_means r_sums r_has r_takers r_takenSums r_order r_before r_roundSums r_carried c_palette n_palette f_thrown f_width f_height f_different f_groups f_rowSize f_ready f_size f_rounds f_palette) → va_S A s.heap H locs → lv_has ls 3 [] → G H locs 0 0 (F0 m 47 ls [.int s0]) := by
    intro s0 f_thrown hv H locs ls hP hD hS hl
    rw [eG]
    unfold vcMd_colour_47 at hv
    exact W.iret (v := s0) hx hb hr (fun t ht hW => ⟨⟨_, f_thrown, rfl, hv, by rw [ht]; exact hP, hD⟩, hS.F ht⟩) hS.2.2 dMd_colour_47
  rw [eG] at j47
  have j27 : ∀ (s0 : Int32), vcMd_colour_27 n_palette f_width f_height f_different f_groups f_rowSize f_ready f_size f_rounds f_palette x1 x2 post s0 f_thrown → ∀ (H : Heap) (locs : List Loc) (ls : Array Slot), va_P (dC, dI) vwCl (wdMd_colour q_this q_palette r_samples r_isGiven r_gives r_colours r_many r_group r_row r_channelOf r_spreads r_boxMany r_there r_groupMany r_means r_sums r_has r_takers r_takenSums r_order r_before r_roundSums r_carried c_palette n_palette f_thrown f_width f_height f_different f_groups f_rowSize f_ready f_size f_rounds f_palette) H → va_D A (wdMd_colour q_this q_palette r_samples r_isGiven r_gives r_colours r_many r_group r_row r_channelOf r_spreads r_boxMany r_there r_groupMany r_means r_sums r_has r_takers r_takenSums r_order r_before r_roundSums r_carried c_palette n_palette f_thrown f_width f_height f_different f_groups f_rowSize f_ready f_size f_rounds f_palette) → va_S A s.heap H locs → lv_has ls 3 [(0, .ref q_this), (1, .int x1), (2, .int x2)] → G H locs 0 0 (F0 m 27 ls [.int s0, .ref q_this]) := by
    intro s0 hv H locs ls hP hD hS hl
    rw [eG]
    unfold vcMd_colour_27 at hv
    have hFc := va_free (wc := (wdMd_tells q_this r_samples r_isGiven r_gives r_colours r_many r_group r_row r_channelOf r_spreads r_boxMany r_there r_groupMany r_means r_sums q_palette r_has r_takers r_takenSums r_order r_before r_roundSums r_carried f_thrown f_width f_height f_different f_groups f_rowSize f_ready f_size f_rounds)) hD hS hA [0] rfl
    refine gx_i (wr := [(q_palette, .inl (c_palette, n_palette, .inl f_palette))]) (va_runV (As := [.int s0]) (rest := []) ⟨hx, hb, hml, hown, hB⟩ (metMd_tells l dC dI q_this r_samples r_isGiven r_gives r_colours r_many r_group r_row r_channelOf r_spreads r_boxMany r_there r_groupMany r_means r_sums q_palette r_has r_takers r_takenSums r_order r_before r_roundSums r_carried H.size f_thrown f_width f_height f_different f_groups f_rowSize f_ready f_size f_rounds s0 hv) (cwV 1 hB (gx_gV bw772 bw773 bw41 bw53 bw774) rfl rfl rfl (by decide +kernel) ⟨(Nat.le_of_ble_eq_true rfl), (Nat.le_of_ble_eq_true rfl)⟩) (gx_preV (ci := 8) (hP.sub (ws' := (wdMd_tells q_this r_samples r_isGiven r_gives r_colours r_many r_group r_row r_channelOf r_spreads r_boxMany r_there r_groupMany r_means r_sums q_palette r_has r_takers r_takenSums r_order r_before r_roundSums r_carried f_thrown f_width f_height f_different f_groups f_rowSize f_ready f_size f_rounds)) [0] rfl) (hK.sub (tys' := []) [] rfl) (hD.sub (ws' := (wdMd_tells q_this r_samples r_isGiven r_gives r_colours r_many r_group r_row r_channelOf r_spreads r_boxMany r_there r_groupMany r_means r_sums q_palette r_has r_takers r_takenSums r_order r_before r_roundSums r_carried f_thrown f_width f_height f_different f_groups f_rowSize f_ready f_size f_rounds)) [0] (by decide) rfl) hZ hS hFc rfl rfl) rfl rfl hl.1 rfl (lv_room (Nat.le_of_ble_eq_true rfl)) dMd_colour_27 ⟨(Nat.le_of_ble_eq_true rfl), (Nat.le_of_ble_eq_true rfl)⟩) hP hD hS hFc [0] [1] rfl rfl (by decide) (by decide) (fun r_2 u_3 H locs hv hP hD hS => ?_)
    obtain ⟨f_thrown_1, rfl⟩ : ∃ z, z = u_3 := ⟨_, rfl⟩
    have hP : va_P (dC, dI) vwCl (wdMd_colour q_this q_palette r_samples r_isGiven r_gives r_colours r_many r_group r_row r_channelOf r_spreads r_boxMany r_there r_groupMany r_means r_sums r_has r_takers r_takenSums r_order r_before r_roundSums r_carried c_palette n_palette f_thrown_1 f_width f_height f_different f_groups f_rowSize f_ready f_size f_rounds f_palette) H := hP.sub [1, 0] rfl
    have hD : va_D A (wdMd_colour q_this q_palette r_samples r_isGiven r_gives r_colours r_many r_group r_row r_channelOf r_spreads r_boxMany r_there r_groupMany r_means r_sums r_has r_takers r_takenSums r_order r_before r_roundSums r_carried c_palette n_palette f_thrown_1 f_width f_height f_different f_groups f_rowSize f_ready f_size f_rounds f_palette) := hD.sub [1, 0] (by decide) rfl
    refine lv_if_eq (tgt := 46) hx hb dMd_colour_30 (by decide) (fun c_4 => ?_) (fun c_4 => ?_)
    · have hv := hv.1 c_4
      refine lv_iconst (v := 0) hx hb dMd_colour_46 (by decide) ?_
      exact j47 0 f_thrown_1 hv _ _ _ hP hD hS (lv_sub hl [] rfl)
    · have hv := hv.2 c_4
      refine lv_aload_n hx hb dMd_colour_33 rfl (lv_at hl 0 rfl) ?_
      refine va_get (D := (dC, dI)) (ci := 8) (v := .ref q_palette) (C := RMd) (T := TMd) (N := 31) hx hb hB hiMd hown hK hP 0 rfl rfl 22 (by decide) hL54 (fun _ h9 => h9) rfl dMd_colour_34 ?_
      refine lv_iconst (v := 4) hx hb dMd_colour_37 (by decide) ?_
      refine lv_iload_n hx hb dMd_colour_38 rfl (lv_at hl 1 rfl) ?_
      refine lv_imul hx hb dMd_colour_39 ?_
      refine lv_iload_n hx hb dMd_colour_40 rfl (lv_at hl 2 rfl) ?_
      refine lv_iadd hx hb dMd_colour_41 ?_
      obtain ⟨h_5, hv⟩ := hv
      refine va_iald hx hb hK hP 1 0 rfl rfl h_5 dMd_colour_42 ?_
      refine lv_goto (tgt := 47) hx hb dMd_colour_43 (by decide) ?_
      exact j47 (f_palette ((4 * x1) + x2).toNatClampNeg) f_thrown_1 hv _ _ _ hP hD hS (lv_sub hl [] rfl)
  rw [eG] at j27
  have j26 : vcMd_colour_26 n_palette f_width f_height f_different f_groups f_rowSize f_ready f_size f_rounds f_palette x1 x2 post f_thrown → ∀ (H : Heap) (locs : List Loc) (ls : Array Slot), va_P (dC, dI) vwCl (wdMd_colour q_this q_palette r_samples r_isGiven r_gives r_colours r_many r_group r_row r_channelOf r_spreads r_boxMany r_there r_groupMany r_means r_sums r_has r_takers r_takenSums r_order r_before r_roundSums r_carried c_palette n_palette f_thrown f_width f_height f_different f_groups f_rowSize f_ready f_size f_rounds f_palette) H → va_D A (wdMd_colour q_this q_palette r_samples r_isGiven r_gives r_colours r_many r_group r_row r_channelOf r_spreads r_boxMany r_there r_groupMany r_means r_sums r_has r_takers r_takenSums r_order r_before r_roundSums r_carried c_palette n_palette f_thrown f_width f_height f_different f_groups f_rowSize f_ready f_size f_rounds f_palette) → va_S A s.heap H locs → lv_has ls 3 [(0, .ref q_this), (1, .int x1), (2, .int x2)] → G H locs 0 0 (F0 m 26 ls [.ref q_this]) := by
    intro  hv H locs ls hP hD hS hl
    rw [eG]
    unfold vcMd_colour_26 at hv
    refine lv_iconst (v := 0) hx hb dMd_colour_26 (by decide) ?_
    exact j27 0 hv _ _ _ hP hD hS (lv_sub hl [0, 1, 2] rfl)
  rw [eG] at j26
  unfold wpMd_colour at hw
  have hv := hw
  rw [eG]
  refine lv_aload_n hx hb dMd_colour_0 rfl (lv_at hl 0 rfl) ?_
  refine lv_iload_n hx hb dMd_colour_1 rfl (lv_at hl 1 rfl) ?_
  refine lv_if_lt (tgt := 26) hx hb dMd_colour_2 (by decide) (fun c_6 => ?_) (fun c_6 => ?_)
  · have hv := hv.1 c_6
    exact j26  hv _ _ _ hP hD hS (lv_sub hl [0, 1, 2] rfl)
  · have hv := hv.2 c_6
    refine lv_iload_n hx hb dMd_colour_5 rfl (lv_at hl 1 rfl) ?_
    refine lv_aload_n hx hb dMd_colour_6 rfl (lv_at hl 0 rfl) ?_
    refine va_get (D := (dC, dI)) (ci := 8) (v := .int f_size) (C := RMd) (T := TMd) (N := 31) hx hb hB hiMd hown hK hP 0 rfl rfl 21 (by decide) hL158 (fun _ h9 => h9) rfl dMd_colour_7 ?_
    refine lv_icmp_ge (tgt := 26) hx hb dMd_colour_10 (by decide) (fun c_7 => ?_) (fun c_7 => ?_)
    · have hv := hv.1 c_7
      exact j26  hv _ _ _ hP hD hS (lv_sub hl [0, 1, 2] rfl)
    · have hv := hv.2 c_7
      refine lv_iload_n hx hb dMd_colour_13 rfl (lv_at hl 2 rfl) ?_
      refine lv_if_lt (tgt := 26) hx hb dMd_colour_14 (by decide) (fun c_8 => ?_) (fun c_8 => ?_)
      · have hv := hv.1 c_8
        exact j26  hv _ _ _ hP hD hS (lv_sub hl [0, 1, 2] rfl)
      · have hv := hv.2 c_8
        refine lv_iload_n hx hb dMd_colour_17 rfl (lv_at hl 2 rfl) ?_
        refine lv_iconst (v := 4) hx hb dMd_colour_18 (by decide) ?_
        refine lv_icmp_ge (tgt := 26) hx hb dMd_colour_19 (by decide) (fun c_9 => ?_) (fun c_9 => ?_)
        · have hv := hv.1 c_9
          exact j26  hv _ _ _ hP hD hS (lv_sub hl [0, 1, 2] rfl)
        · have hv := hv.2 c_9
          refine lv_iconst (v := 1) hx hb dMd_colour_22 (by decide) ?_
          refine lv_goto (tgt := 27) hx hb dMd_colour_23 (by decide) ?_
          exact j27 1 hv _ _ _ hP hD hS (lv_sub hl [0, 1, 2] rfl)
abbrev wdMd_index (q_this q_has r_samples r_isGiven r_gives r_colours r_many r_group r_row r_channelOf r_spreads r_boxMany r_there r_groupMany r_means r_sums r_palette r_takers r_takenSums r_order r_before r_roundSums r_carried : Nat) (c_has : ClassId) (n_has : Nat) (f_thrown : Int32) (f_width : Int32) (f_height : Int32) (f_different : Int32) (f_groups : Int32) (f_rowSize : Int32) (f_ready : Int32) (f_size : Int32) (f_rounds : Int32) (f_has : Nat → Int32) : va_W := [(q_this, .inr (8, [.int f_thrown, .int f_width, .int f_height, .ref r_samples, .ref r_isGiven, .ref r_gives, .int f_different, .ref r_colours, .ref r_many, .ref r_group, .int f_groups, .ref r_row, .int f_rowSize, .ref r_channelOf, .ref r_spreads, .ref r_boxMany, .ref r_there, .ref r_groupMany, .ref r_means, .ref r_sums, .int f_ready, .int f_size, .ref r_palette, .ref q_has, .ref r_takers, .ref r_takenSums, .ref r_order, .ref r_before, .int f_rounds, .ref r_roundSums, .ref r_carried])), (q_has, .inl (c_has, n_has, .inl f_has))]
set_option maxHeartbeats 4000000 in
set_option maxRecDepth 100000 in
theorem metMd_index (l : Launch) (dC : Nat → ClassId) (dI : Nat → Nat → Nat) (q_this q_has r_samples r_isGiven r_gives r_colours r_many r_group r_row r_channelOf r_spreads r_boxMany r_there r_groupMany r_means r_sums r_palette r_takers r_takenSums r_order r_before r_roundSums r_carried : Nat) (c_has : ClassId) (n_has : Nat) (sz : Nat) (f_thrown : Int32) (f_width : Int32) (f_height : Int32) (f_different : Int32) (f_groups : Int32) (f_rowSize : Int32) (f_ready : Int32) (f_size : Int32) (f_rounds : Int32) (f_has : Nat → Int32) (x1 : Int32) (x2 : Int32) {post : Int32 → Int32 → Prop} (hw : wpMd_index n_has f_thrown f_width f_height f_different f_groups f_rowSize f_ready f_size f_rounds f_has x1 x2 post) : Met l yMd_index (.code yMd_index bMd_index 3 (some .int) :: BIG) ({ frames := 1, cells := 0, slots := 0, locals := 22 }) (va_Pc [.ref q_this, .int x1, .int x2] (gx_pre (dC, dI) vwCl (wdMd_index q_this q_has r_samples r_isGiven r_gives r_colours r_many r_group r_row r_channelOf r_spreads r_boxMany r_there r_groupMany r_means r_sums r_palette r_takers r_takenSums r_order r_before r_roundSums r_carried c_has n_has f_thrown f_width f_height f_different f_groups f_rowSize f_ready f_size f_rounds f_has) [(c_has, .int)] sz)) (va_Qi (fun r (u : Int32) => post r u) (gx_B (dC, dI) vwCl (va_A (wdMd_index q_this q_has r_samples r_isGiven r_gives r_colours r_many r_group r_row r_channelOf r_spreads r_boxMany r_there r_groupMany r_means r_sums r_palette r_takers r_takenSums r_order r_before r_roundSums r_carried c_has n_has f_thrown f_width f_height f_different f_groups f_rowSize f_ready f_size f_rounds f_has) sz) (fun (u : Int32) => (wdMd_index q_this q_has r_samples r_isGiven r_gives r_colours r_many r_group r_row r_channelOf r_spreads r_boxMany r_there r_groupMany r_means r_sums r_palette r_takers r_takenSums r_order r_before r_roundSums r_carried c_has n_has u f_width f_height f_different f_groups f_rowSize f_ready f_size f_rounds f_has))) (va_A (wdMd_index q_this q_has r_samples r_isGiven r_gives r_colours r_many r_group r_row r_channelOf r_spreads r_boxMany r_there r_groupMany r_means r_sums r_palette r_takers r_takenSums r_order r_before r_roundSums r_carried c_has n_has f_thrown f_width f_height f_different f_groups f_rowSize f_ready f_size f_rounds f_has) sz)) 0 0 (va_A (wdMd_index q_this q_has r_samples r_isGiven r_gives r_colours r_many r_group r_row r_channelOf r_spreads r_boxMany r_there r_groupMany r_means r_sums r_palette r_takers r_takenSums r_order r_before r_roundSums r_carried c_has n_has f_thrown f_width f_height f_different f_groups f_rowSize f_ready f_size f_rounds f_has) sz) := by
  refine Met.ofW (cc := bMd_index) (maxL := 3) (ret := (some .int)) (by decide) rfl ?_
  intro p e s m args below meth c s₁ B hml hv
  obtain ⟨rfl, hsz, hP, hK, hD0, hZ⟩ := hv
  have hx := B.exec
  have hb := B.bytes
  have hr := B.returns
  have hts := atoms_spec (ws := (.code yMd_index bMd_index 3 (some .int) :: BIG)) B.pre
  have hB : ∀ w ∈ BIG, w.before _ s = true := fun w h => hts w (List.mem_cons_of_mem _ h)
  have hown : s.vm.findClass RMd = some m.cls := findClass_of_methodNamed B.named
  have hlocks := B.notSynchronized
  subst hsz
  have hD := hD0.self (sz := s.heap.size)
  generalize hAe : va_A (wdMd_index q_this q_has r_samples r_isGiven r_gives r_colours r_many r_group r_row r_channelOf r_spreads r_boxMany r_there r_groupMany r_means r_sums r_palette r_takers r_takenSums r_order r_before r_roundSums r_carried c_has n_has f_thrown f_width f_height f_different f_groups f_rowSize f_ready f_size f_rounds f_has) s.heap.size = A at hD hZ ⊢
  have hA : ∀ q : Nat, s.heap.size ≤ q → A q := fun q h => by rw [← hAe]; exact Or.inr h
  have hS : va_S A s.heap s.heap [] := va_S.rf
  have hl := lv_entry ([.ref q_this, .int x1, .int x2]) (n := 3) (Nat.le_of_ble_eq_true rfl)
  rw [lg_entry_eq]
  generalize (lg_sl ([.ref q_this, .int x1, .int x2]) ++ List.replicate (3 - (lg_sl ([.ref q_this, .int x1, .int x2])).length) Slot.unset).toArray = ls at hl ⊢
  have hl : lv_has ls 3 [(0, .ref q_this), (1, .int x1), (2, .int x2)] := hl
  have hL57 := (hB _ bw638)
  have hL78 := (hB _ bw616)
  refine gx_abs (fun G eG => ?_)
  have j30 : ∀ (s0 : Int32) (f_thrown : Int32), vcMd_index_30 n_has f_width f_height f_different f_groups f_rowSize f_ready f_size f_rounds f_has x1 x2 post s0 f_thrown → ∀ (H : Heap) (locs : List Loc) (ls : Array Slot), va_P (dC, dI) vwCl (wdMd_index q_this q_has r_samples r_isGiven r_gives r_colours r_many r_group r_row r_channelOf r_spreads r_boxMany r_there r_groupMany r_means r_sums r_palette r_takers r_takenSums r_order r_before r_roundSums r_carried c_has n_has f_thrown f_width f_height f_different f_groups f_rowSize f_ready f_size f_rounds f_has) H → va_D A (wdMd_index q_this q_has r_samples r_isGiven r_gives r_colours r_many r_group r_row r_channelOf r_spreads r_boxMany r_there r_groupMany r_means r_sums r_palette r_takers r_takenSums r_order r_before r_roundSums r_carried c_has n_has f_thrown f_width f_height f_different f_groups f_rowSize f_ready f_size f_rounds f_has) → va_S A s.heap H locs → lv_has ls 3 [] → G H locs 0 0 (F0 m 30 ls [.int s0]) := by
    intro s0 f_thrown hv H locs ls hP hD hS hl
    rw [eG]
    unfold vcMd_index_30 at hv
    exact W.iret (v := s0) hx hb hr (fun t ht hW => ⟨⟨_, f_thrown, rfl, hv, by rw [ht]; exact hP, hD⟩, hS.F ht⟩) hS.2.2 dMd_index_30
  rw [eG] at j30
  unfold wpMd_index at hw
  have hv := hw
  rw [eG]
  refine lv_aload_n hx hb dMd_index_0 rfl (lv_at hl 0 rfl) ?_
  refine lv_aload_n hx hb dMd_index_1 rfl (lv_at hl 0 rfl) ?_
  refine lv_iload_n hx hb dMd_index_2 rfl (lv_at hl 1 rfl) ?_
  refine lv_iload_n hx hb dMd_index_3 rfl (lv_at hl 2 rfl) ?_
  refine gx_ri (va_runV (As := [.int x1, .int x2]) (rest := [.ref q_this]) ⟨hx, hb, hml, hown, hB⟩ (metMd_isPlace l dC dI q_this r_samples r_isGiven r_gives r_colours r_many r_group r_row r_channelOf r_spreads r_boxMany r_there r_groupMany r_means r_sums r_palette q_has r_takers r_takenSums r_order r_before r_roundSums r_carried s.heap.size f_thrown f_width f_height f_different f_groups f_rowSize f_ready f_size f_rounds x1 x2 hv) (cwV 2 hB (gx_gV bw685 bw686 bw24 bw53 bw687) rfl rfl rfl (by decide +kernel) ⟨(Nat.le_of_ble_eq_true rfl), (Nat.le_of_ble_eq_true rfl)⟩) (gx_rpreV (ci := 8) (hP.sub (ws' := (wdMd_isPlace q_this r_samples r_isGiven r_gives r_colours r_many r_group r_row r_channelOf r_spreads r_boxMany r_there r_groupMany r_means r_sums r_palette q_has r_takers r_takenSums r_order r_before r_roundSums r_carried f_thrown f_width f_height f_different f_groups f_rowSize f_ready f_size f_rounds)) [0] rfl) (hK.sub (tys' := []) [] rfl) hZ hS hA rfl rfl) rfl rfl hl.1 rfl (lv_room (Nat.le_of_ble_eq_true rfl)) dMd_index_4 ⟨(Nat.le_of_ble_eq_true rfl), (Nat.le_of_ble_eq_true rfl)⟩) hP hS hA (fun r_1 H locs hv hP hS => ?_)
  have hFc := va_free (wc := (wdMd_tells q_this r_samples r_isGiven r_gives r_colours r_many r_group r_row r_channelOf r_spreads r_boxMany r_there r_groupMany r_means r_sums r_palette q_has r_takers r_takenSums r_order r_before r_roundSums r_carried f_thrown f_width f_height f_different f_groups f_rowSize f_ready f_size f_rounds)) hD hS hA [0] rfl
  refine gx_i (wr := [(q_has, .inl (c_has, n_has, .inl f_has))]) (va_runV (As := [.int r_1]) (rest := []) ⟨hx, hb, hml, hown, hB⟩ (metMd_tells l dC dI q_this r_samples r_isGiven r_gives r_colours r_many r_group r_row r_channelOf r_spreads r_boxMany r_there r_groupMany r_means r_sums r_palette q_has r_takers r_takenSums r_order r_before r_roundSums r_carried H.size f_thrown f_width f_height f_different f_groups f_rowSize f_ready f_size f_rounds r_1 hv) (cwV 1 hB (gx_gV bw772 bw773 bw41 bw53 bw774) rfl rfl rfl (by decide +kernel) ⟨(Nat.le_of_ble_eq_true rfl), (Nat.le_of_ble_eq_true rfl)⟩) (gx_preV (ci := 8) (hP.sub (ws' := (wdMd_tells q_this r_samples r_isGiven r_gives r_colours r_many r_group r_row r_channelOf r_spreads r_boxMany r_there r_groupMany r_means r_sums r_palette q_has r_takers r_takenSums r_order r_before r_roundSums r_carried f_thrown f_width f_height f_different f_groups f_rowSize f_ready f_size f_rounds)) [0] rfl) (hK.sub (tys' := []) [] rfl) (hD.sub (ws' := (wdMd_tells q_this r_samples r_isGiven r_gives r_colours r_many r_group r_row r_channelOf r_spreads r_boxMany r_there r_groupMany r_means r_sums r_palette q_has r_takers r_takenSums r_order r_before r_roundSums r_carried f_thrown f_width f_height f_different f_groups f_rowSize f_ready f_size f_rounds)) [0] (by decide) rfl) hZ hS hFc rfl rfl) rfl rfl hl.1 rfl (lv_room (Nat.le_of_ble_eq_true rfl)) dMd_index_7 ⟨(Nat.le_of_ble_eq_true rfl), (Nat.le_of_ble_eq_true rfl)⟩) hP hD hS hFc [0] [1] rfl rfl (by decide) (by decide) (fun r_4 u_5 H locs hv hP hD hS => ?_)
  obtain ⟨f_thrown_3, rfl⟩ : ∃ z, z = u_5 := ⟨_, rfl⟩
  have hP : va_P (dC, dI) vwCl (wdMd_index q_this q_has r_samples r_isGiven r_gives r_colours r_many r_group r_row r_channelOf r_spreads r_boxMany r_there r_groupMany r_means r_sums r_palette r_takers r_takenSums r_order r_before r_roundSums r_carried c_has n_has f_thrown_3 f_width f_height f_different f_groups f_rowSize f_ready f_size f_rounds f_has) H := hP.sub [1, 0] rfl
  have hD : va_D A (wdMd_index q_this q_has r_samples r_isGiven r_gives r_colours r_many r_group r_row r_channelOf r_spreads r_boxMany r_there r_groupMany r_means r_sums r_palette r_takers r_takenSums r_order r_before r_roundSums r_carried c_has n_has f_thrown_3 f_width f_height f_different f_groups f_rowSize f_ready f_size f_rounds f_has) := hD.sub [1, 0] (by decide) rfl
  refine lv_if_eq (tgt := 29) hx hb dMd_index_10 (by decide) (fun c_6 => ?_) (fun c_6 => ?_)
  · have hv := hv.1 c_6
    refine lv_iconst (v := 0) hx hb dMd_index_29 (by decide) ?_
    exact j30 0 f_thrown_3 hv _ _ _ hP hD hS (lv_sub hl [] rfl)
  · have hv := hv.2 c_6
    refine lv_aload_n hx hb dMd_index_13 rfl (lv_at hl 0 rfl) ?_
    refine va_get (D := (dC, dI)) (ci := 8) (v := .ref q_has) (C := RMd) (T := TMd) (N := 31) hx hb hB hiMd hown hK hP 0 rfl rfl 23 (by decide) hL57 (fun _ h9 => h9) rfl dMd_index_14 ?_
    refine lv_aload_n hx hb dMd_index_17 rfl (lv_at hl 0 rfl) ?_
    refine va_get (D := (dC, dI)) (ci := 8) (v := .int f_width) (C := RMd) (T := TMd) (N := 31) hx hb hB hiMd hown hK hP 0 rfl rfl 1 (by decide) hL78 (fun _ h9 => h9) rfl dMd_index_18 ?_
    refine lv_iload_n hx hb dMd_index_21 rfl (lv_at hl 2 rfl) ?_
    refine lv_imul hx hb dMd_index_22 ?_
    refine lv_iload_n hx hb dMd_index_23 rfl (lv_at hl 1 rfl) ?_
    refine lv_iadd hx hb dMd_index_24 ?_
    obtain ⟨h_7, hv⟩ := hv
    refine va_iald hx hb hK hP 1 0 rfl rfl h_7 dMd_index_25 ?_
    refine lv_goto (tgt := 30) hx hb dMd_index_26 (by decide) ?_
    exact j30 (f_has ((f_width * x2) + x1).toNatClampNeg) f_thrown_3 hv _ _ _ hP hD hS (lv_sub hl [] rfl)
abbrev wdMd_nearest (q_this q_palette q_before r_samples r_isGiven r_gives r_colours r_many r_group r_row r_channelOf r_spreads r_boxMany r_there r_groupMany r_means r_sums r_has r_takers r_takenSums r_order r_roundSums r_carried : Nat) (c_palette c_before : ClassId) (n_palette n_before : Nat) (f_thrown : Int32) (f_width : Int32) (f_height : Int32) (f_different : Int32) (f_groups : Int32) (f_rowSize : Int32) (f_ready : Int32) (f_size : Int32) (f_rounds : Int32) (f_palette : Nat → Int32) (f_before : Nat → Int32) : va_W := [(q_this, .inr (8, [.int f_thrown, .int f_width, .int f_height, .ref r_samples, .ref r_isGiven, .ref r_gives, .int f_different, .ref r_colours, .ref r_many, .ref r_group, .int f_groups, .ref r_row, .int f_rowSize, .ref r_channelOf, .ref r_spreads, .ref r_boxMany, .ref r_there, .ref r_groupMany, .ref r_means, .ref r_sums, .int f_ready, .int f_size, .ref q_palette, .ref r_has, .ref r_takers, .ref r_takenSums, .ref r_order, .ref q_before, .int f_rounds, .ref r_roundSums, .ref r_carried])), (q_palette, .inl (c_palette, n_palette, .inl f_palette)), (q_before, .inl (c_before, n_before, .inl f_before))]
set_option maxHeartbeats 4000000 in
set_option maxRecDepth 100000 in
theorem metMd_nearest (l : Launch) (dC : Nat → ClassId) (dI : Nat → Nat → Nat) (q_this q_palette q_before r_samples r_isGiven r_gives r_colours r_many r_group r_row r_channelOf r_spreads r_boxMany r_there r_groupMany r_means r_sums r_has r_takers r_takenSums r_order r_roundSums r_carried : Nat) (c_palette c_before : ClassId) (n_palette n_before : Nat) (sz : Nat) (f_thrown : Int32) (f_width : Int32) (f_height : Int32) (f_different : Int32) (f_groups : Int32) (f_rowSize : Int32) (f_ready : Int32) (f_size : Int32) (f_rounds : Int32) (f_palette : Nat → Int32) (f_before : Nat → Int32) (x1 : Int32) (x2 : Int32) (x3 : Int32) (x4 : Int32) {post : Int32 → Int32 → (Nat → Int32) → Prop} (hw : wpMd_nearest n_palette n_before f_thrown f_width f_height f_different f_groups f_rowSize f_ready f_size f_rounds f_palette f_before x1 x2 x3 x4 post) : Met l yMd_nearest (.code yMd_nearest bMd_nearest 5 (some .int) :: BIG) ({ frames := 2, cells := 0, slots := 0, locals := 52 }) (va_Pc [.ref q_this, .int x1, .int x2, .int x3, .int x4] (gx_pre (dC, dI) vwCl (wdMd_nearest q_this q_palette q_before r_samples r_isGiven r_gives r_colours r_many r_group r_row r_channelOf r_spreads r_boxMany r_there r_groupMany r_means r_sums r_has r_takers r_takenSums r_order r_roundSums r_carried c_palette c_before n_palette n_before f_thrown f_width f_height f_different f_groups f_rowSize f_ready f_size f_rounds f_palette f_before) [(c_palette, .int), (c_before, .int)] sz)) (va_Qi (fun r (u : Int32 × (Nat → Int32)) => post r u.1 u.2) (gx_B (dC, dI) vwCl (va_A (wdMd_nearest q_this q_palette q_before r_samples r_isGiven r_gives r_colours r_many r_group r_row r_channelOf r_spreads r_boxMany r_there r_groupMany r_means r_sums r_has r_takers r_takenSums r_order r_roundSums r_carried c_palette c_before n_palette n_before f_thrown f_width f_height f_different f_groups f_rowSize f_ready f_size f_rounds f_palette f_before) sz) (fun (u : Int32 × (Nat → Int32)) => (wdMd_nearest q_this q_palette q_before r_samples r_isGiven r_gives r_colours r_many r_group r_row r_channelOf r_spreads r_boxMany r_there r_groupMany r_means r_sums r_has r_takers r_takenSums r_order r_roundSums r_carried c_palette c_before n_palette n_before u.1 f_width f_height f_different f_groups f_rowSize f_ready f_size f_rounds f_palette u.2))) (va_A (wdMd_nearest q_this q_palette q_before r_samples r_isGiven r_gives r_colours r_many r_group r_row r_channelOf r_spreads r_boxMany r_there r_groupMany r_means r_sums r_has r_takers r_takenSums r_order r_roundSums r_carried c_palette c_before n_palette n_before f_thrown f_width f_height f_different f_groups f_rowSize f_ready f_size f_rounds f_palette f_before) sz)) 0 0 (va_A (wdMd_nearest q_this q_palette q_before r_samples r_isGiven r_gives r_colours r_many r_group r_row r_channelOf r_spreads r_boxMany r_there r_groupMany r_means r_sums r_has r_takers r_takenSums r_order r_roundSums r_carried c_palette c_before n_palette n_before f_thrown f_width f_height f_different f_groups f_rowSize f_ready f_size f_rounds f_palette f_before) sz) := by
  refine Met.ofW (cc := bMd_nearest) (maxL := 5) (ret := (some .int)) (by decide) rfl ?_
  intro p e s m args below meth c s₁ B hml hv
  obtain ⟨rfl, hsz, hP, hK, hD0, hZ⟩ := hv
  have hx := B.exec
  have hb := B.bytes
  have hr := B.returns
  have hts := atoms_spec (ws := (.code yMd_nearest bMd_nearest 5 (some .int) :: BIG)) B.pre
  have hB : ∀ w ∈ BIG, w.before _ s = true := fun w h => hts w (List.mem_cons_of_mem _ h)
  have hown : s.vm.findClass RMd = some m.cls := findClass_of_methodNamed B.named
  have hlocks := B.notSynchronized
  subst hsz
  have hD := hD0.self (sz := s.heap.size)
  generalize hAe : va_A (wdMd_nearest q_this q_palette q_before r_samples r_isGiven r_gives r_colours r_many r_group r_row r_channelOf r_spreads r_boxMany r_there r_groupMany r_means r_sums r_has r_takers r_takenSums r_order r_roundSums r_carried c_palette c_before n_palette n_before f_thrown f_width f_height f_different f_groups f_rowSize f_ready f_size f_rounds f_palette f_before) s.heap.size = A at hD hZ ⊢
  have hA : ∀ q : Nat, s.heap.size ≤ q → A q := fun q h => by rw [← hAe]; exact Or.inr h
  have hS : va_S A s.heap s.heap [] := va_S.rf
  have hl := lv_entry ([.ref q_this, .int x1, .int x2, .int x3, .int x4]) (n := 5) (Nat.le_of_ble_eq_true rfl)
  rw [lg_entry_eq]
  generalize (lg_sl ([.ref q_this, .int x1, .int x2, .int x3, .int x4]) ++ List.replicate (5 - (lg_sl ([.ref q_this, .int x1, .int x2, .int x3, .int x4])).length) Slot.unset).toArray = ls at hl ⊢
  have hl : lv_has ls 5 [(0, .ref q_this), (1, .int x1), (2, .int x2), (3, .int x3), (4, .int x4)] := hl
  have hL69 := (hB _ bw642)
  unfold wpMd_nearest at hw
  have hv := hw
  refine lv_aload_n hx hb dMd_nearest_0 rfl (lv_at hl 0 rfl) ?_
  refine lv_iload_n hx hb dMd_nearest_1 rfl (lv_at hl 1 rfl) ?_
  refine lv_iload_n hx hb dMd_nearest_2 rfl (lv_at hl 2 rfl) ?_
  refine lv_iload_n hx hb dMd_nearest_3 rfl (lv_at hl 3 rfl) ?_
  refine lv_iload hx hb dMd_nearest_4 (lv_at hl 4 rfl) ?_
  refine gx_ri (va_runS (As := [.int x1, .int x2, .int x3, .int x4]) (rest := [.ref q_this]) ⟨hx, hb, hml, hown, hB⟩ (metMd_areChannels l dC dI s.heap.size x1 x2 x3 x4 hv) (va_cwS 4 hB (gx_gS bw688 bw689 bw53 bw690) rfl rfl rfl (by decide +kernel) ⟨(Nat.le_of_ble_eq_true rfl), (Nat.le_of_ble_eq_true rfl)⟩) (gx_rpreS (hP.sub (ws' := wdMd_areChannels) [] rfl) (hK.sub (tys' := []) [] rfl) hZ hS hA) rfl rfl hl.1 rfl (lv_room (Nat.le_of_ble_eq_true rfl)) dMd_nearest_6 ⟨(Nat.le_of_ble_eq_true rfl), (Nat.le_of_ble_eq_true rfl)⟩) hP hS hA (fun r_1 H locs hv hP hS => ?_)
  have hFc := va_free (wc := (wdMd_tells q_this r_samples r_isGiven r_gives r_colours r_many r_group r_row r_channelOf r_spreads r_boxMany r_there r_groupMany r_means r_sums q_palette r_has r_takers r_takenSums r_order q_before r_roundSums r_carried f_thrown f_width f_height f_different f_groups f_rowSize f_ready f_size f_rounds)) hD hS hA [0] rfl
  refine gx_i (wr := [(q_palette, .inl (c_palette, n_palette, .inl f_palette)), (q_before, .inl (c_before, n_before, .inl f_before))]) (va_runV (As := [.int r_1]) (rest := []) ⟨hx, hb, hml, hown, hB⟩ (metMd_tells l dC dI q_this r_samples r_isGiven r_gives r_colours r_many r_group r_row r_channelOf r_spreads r_boxMany r_there r_groupMany r_means r_sums q_palette r_has r_takers r_takenSums r_order q_before r_roundSums r_carried H.size f_thrown f_width f_height f_different f_groups f_rowSize f_ready f_size f_rounds r_1 hv) (cwV 1 hB (gx_gV bw772 bw773 bw41 bw53 bw774) rfl rfl rfl (by decide +kernel) ⟨(Nat.le_of_ble_eq_true rfl), (Nat.le_of_ble_eq_true rfl)⟩) (gx_preV (ci := 8) (hP.sub (ws' := (wdMd_tells q_this r_samples r_isGiven r_gives r_colours r_many r_group r_row r_channelOf r_spreads r_boxMany r_there r_groupMany r_means r_sums q_palette r_has r_takers r_takenSums r_order q_before r_roundSums r_carried f_thrown f_width f_height f_different f_groups f_rowSize f_ready f_size f_rounds)) [0] rfl) (hK.sub (tys' := []) [] rfl) (hD.sub (ws' := (wdMd_tells q_this r_samples r_isGiven r_gives r_colours r_many r_group r_row r_channelOf r_spreads r_boxMany r_there r_groupMany r_means r_sums q_palette r_has r_takers r_takenSums r_order q_before r_roundSums r_carried f_thrown f_width f_height f_different f_groups f_rowSize f_ready f_size f_rounds)) [0] (by decide) rfl) hZ hS hFc rfl rfl) rfl rfl hl.1 rfl (lv_room (Nat.le_of_ble_eq_true rfl)) dMd_nearest_9 ⟨(Nat.le_of_ble_eq_true rfl), (Nat.le_of_ble_eq_true rfl)⟩) hP hD hS hFc [0] [1, 2] rfl rfl (by decide) (by decide) (fun r_4 u_5 H locs hv hP hD hS => ?_)
  obtain ⟨f_thrown_3, rfl⟩ : ∃ z, z = u_5 := ⟨_, rfl⟩
  have hP : va_P (dC, dI) vwCl (wdMd_nearest q_this q_palette q_before r_samples r_isGiven r_gives r_colours r_many r_group r_row r_channelOf r_spreads r_boxMany r_there r_groupMany r_means r_sums r_has r_takers r_takenSums r_order r_roundSums r_carried c_palette c_before n_palette n_before f_thrown_3 f_width f_height f_different f_groups f_rowSize f_ready f_size f_rounds f_palette f_before) H := hP.sub [2, 0, 1] rfl
  have hD : va_D A (wdMd_nearest q_this q_palette q_before r_samples r_isGiven r_gives r_colours r_many r_group r_row r_channelOf r_spreads r_boxMany r_there r_groupMany r_means r_sums r_has r_takers r_takenSums r_order r_roundSums r_carried c_palette c_before n_palette n_before f_thrown_3 f_width f_height f_different f_groups f_rowSize f_ready f_size f_rounds f_palette f_before) := hD.sub [2, 0, 1] (by decide) rfl
  refine lv_if_ne (tgt := 17) hx hb dMd_nearest_12 (by decide) (fun c_6 => ?_) (fun c_6 => ?_)
  · have hv := hv.1 c_6
    refine lv_aload_n hx hb dMd_nearest_17 rfl (lv_at hl 0 rfl) ?_
    refine va_get (D := (dC, dI)) (ci := 8) (v := .ref q_before) (C := RMd) (T := TMd) (N := 31) hx hb hB hiMd hown hK hP 0 rfl rfl 27 (by decide) hL69 (fun _ h9 => h9) rfl dMd_nearest_18 ?_
    refine lv_iconst (v := 0) hx hb dMd_nearest_21 (by decide) ?_
    refine lv_iload_n hx hb dMd_nearest_22 rfl (lv_at hl 1 rfl) ?_
    obtain ⟨h_7, hv⟩ := hv
    refine va_iast hx hb hK hP hD hS 2 1 rfl rfl h_7 dMd_nearest_23 (fun H locs hP hD hS => ?_)
    have hP : va_P (dC, dI) vwCl (wdMd_nearest q_this q_palette q_before r_samples r_isGiven r_gives r_colours r_many r_group r_row r_channelOf r_spreads r_boxMany r_there r_groupMany r_means r_sums r_has r_takers r_takenSums r_order r_roundSums r_carried c_palette c_before n_palette n_before f_thrown_3 f_width f_height f_different f_groups f_rowSize f_ready f_size f_rounds f_palette (upd f_before (0 : Int32).toNatClampNeg x1)) H := hP
    have hD : va_D A (wdMd_nearest q_this q_palette q_before r_samples r_isGiven r_gives r_colours r_many r_group r_row r_channelOf r_spreads r_boxMany r_there r_groupMany r_means r_sums r_has r_takers r_takenSums r_order r_roundSums r_carried c_palette c_before n_palette n_before f_thrown_3 f_width f_height f_different f_groups f_rowSize f_ready f_size f_rounds f_palette (upd f_before (0 : Int32).toNatClampNeg x1)) := hD
    refine lv_aload_n hx hb dMd_nearest_24 rfl (lv_at hl 0 rfl) ?_
    refine va_get (D := (dC, dI)) (ci := 8) (v := .ref q_before) (C := RMd) (T := TMd) (N := 31) hx hb hB hiMd hown hK hP 0 rfl rfl 27 (by decide) hL69 (fun _ h9 => h9) rfl dMd_nearest_25 ?_
    refine lv_iconst (v := 1) hx hb dMd_nearest_28 (by decide) ?_
    refine lv_iload_n hx hb dMd_nearest_29 rfl (lv_at hl 2 rfl) ?_
    obtain ⟨h_9, hv⟩ := hv
    refine va_iast hx hb hK hP hD hS 2 1 rfl rfl h_9 dMd_nearest_30 (fun H locs hP hD hS => ?_)
    have hP : va_P (dC, dI) vwCl (wdMd_nearest q_this q_palette q_before r_samples r_isGiven r_gives r_colours r_many r_group r_row r_channelOf r_spreads r_boxMany r_there r_groupMany r_means r_sums r_has r_takers r_takenSums r_order r_roundSums r_carried c_palette c_before n_palette n_before f_thrown_3 f_width f_height f_different f_groups f_rowSize f_ready f_size f_rounds f_palette (upd (upd f_before (0 : Int32).toNatClampNeg x1) (1 : Int32).toNatClampNeg x2)) H := hP
    have hD : va_D A (wdMd_nearest q_this q_palette q_before r_samples r_isGiven r_gives r_colours r_many r_group r_row r_channelOf r_spreads r_boxMany r_there r_groupMany r_means r_sums r_has r_takers r_takenSums r_order r_roundSums r_carried c_palette c_before n_palette n_before f_thrown_3 f_width f_height f_different f_groups f_rowSize f_ready f_size f_rounds f_palette (upd (upd f_before (0 : Int32).toNatClampNeg x1) (1 : Int32).toNatClampNeg x2)) := hD
    refine lv_aload_n hx hb dMd_nearest_31 rfl (lv_at hl 0 rfl) ?_
    refine va_get (D := (dC, dI)) (ci := 8) (v := .ref q_before) (C := RMd) (T := TMd) (N := 31) hx hb hB hiMd hown hK hP 0 rfl rfl 27 (by decide) hL69 (fun _ h9 => h9) rfl dMd_nearest_32 ?_
    refine lv_iconst (v := 2) hx hb dMd_nearest_35 (by decide) ?_
    refine lv_iload_n hx hb dMd_nearest_36 rfl (lv_at hl 3 rfl) ?_
    obtain ⟨h_11, hv⟩ := hv
    refine va_iast hx hb hK hP hD hS 2 1 rfl rfl h_11 dMd_nearest_37 (fun H locs hP hD hS => ?_)
    have hP : va_P (dC, dI) vwCl (wdMd_nearest q_this q_palette q_before r_samples r_isGiven r_gives r_colours r_many r_group r_row r_channelOf r_spreads r_boxMany r_there r_groupMany r_means r_sums r_has r_takers r_takenSums r_order r_roundSums r_carried c_palette c_before n_palette n_before f_thrown_3 f_width f_height f_different f_groups f_rowSize f_ready f_size f_rounds f_palette (upd (upd (upd f_before (0 : Int32).toNatClampNeg x1) (1 : Int32).toNatClampNeg x2) (2 : Int32).toNatClampNeg x3)) H := hP
    have hD : va_D A (wdMd_nearest q_this q_palette q_before r_samples r_isGiven r_gives r_colours r_many r_group r_row r_channelOf r_spreads r_boxMany r_there r_groupMany r_means r_sums r_has r_takers r_takenSums r_order r_roundSums r_carried c_palette c_before n_palette n_before f_thrown_3 f_width f_height f_different f_groups f_rowSize f_ready f_size f_rounds f_palette (upd (upd (upd f_before (0 : Int32).toNatClampNeg x1) (1 : Int32).toNatClampNeg x2) (2 : Int32).toNatClampNeg x3)) := hD
    refine lv_aload_n hx hb dMd_nearest_38 rfl (lv_at hl 0 rfl) ?_
    refine va_get (D := (dC, dI)) (ci := 8) (v := .ref q_before) (C := RMd) (T := TMd) (N := 31) hx hb hB hiMd hown hK hP 0 rfl rfl 27 (by decide) hL69 (fun _ h9 => h9) rfl dMd_nearest_39 ?_
    refine lv_iconst (v := 3) hx hb dMd_nearest_42 (by decide) ?_
    refine lv_iload hx hb dMd_nearest_43 (lv_at hl 4 rfl) ?_
    obtain ⟨h_13, hv⟩ := hv
    refine va_iast hx hb hK hP hD hS 2 1 rfl rfl h_13 dMd_nearest_45 (fun H locs hP hD hS => ?_)
    have hP : va_P (dC, dI) vwCl (wdMd_nearest q_this q_palette q_before r_samples r_isGiven r_gives r_colours r_many r_group r_row r_channelOf r_spreads r_boxMany r_there r_groupMany r_means r_sums r_has r_takers r_takenSums r_order r_roundSums r_carried c_palette c_before n_palette n_before f_thrown_3 f_width f_height f_different f_groups f_rowSize f_ready f_size f_rounds f_palette (upd (upd (upd (upd f_before (0 : Int32).toNatClampNeg x1) (1 : Int32).toNatClampNeg x2) (2 : Int32).toNatClampNeg x3) (3 : Int32).toNatClampNeg x4)) H := hP
    have hD : va_D A (wdMd_nearest q_this q_palette q_before r_samples r_isGiven r_gives r_colours r_many r_group r_row r_channelOf r_spreads r_boxMany r_there r_groupMany r_means r_sums r_has r_takers r_takenSums r_order r_roundSums r_carried c_palette c_before n_palette n_before f_thrown_3 f_width f_height f_different f_groups f_rowSize f_ready f_size f_rounds f_palette (upd (upd (upd (upd f_before (0 : Int32).toNatClampNeg x1) (1 : Int32).toNatClampNeg x2) (2 : Int32).toNatClampNeg x3) (3 : Int32).toNatClampNeg x4)) := hD
    refine lv_aload_n hx hb dMd_nearest_46 rfl (lv_at hl 0 rfl) ?_
    refine lv_aload_n hx hb dMd_nearest_47 rfl (lv_at hl 0 rfl) ?_
    refine va_get (D := (dC, dI)) (ci := 8) (v := .ref q_before) (C := RMd) (T := TMd) (N := 31) hx hb hB hiMd hown hK hP 0 rfl rfl 27 (by decide) hL69 (fun _ h9 => h9) rfl dMd_nearest_48 ?_
    refine lv_iconst (v := 0) hx hb dMd_nearest_51 (by decide) ?_
    refine gx_ri (va_runV (As := [.ref q_before, .int 0]) (rest := []) ⟨hx, hb, hml, hown, hB⟩ (metMd_nearestTo l dC dI q_this q_palette q_before r_samples r_isGiven r_gives r_colours r_many r_group r_row r_channelOf r_spreads r_boxMany r_there r_groupMany r_means r_sums r_has r_takers r_takenSums r_order q_before r_roundSums r_carried c_palette c_before n_palette n_before H.size f_thrown_3 f_width f_height f_different f_groups f_rowSize f_ready f_size f_rounds f_palette (upd (upd (upd (upd f_before (0 : Int32).toNatClampNeg x1) (1 : Int32).toNatClampNeg x2) (2 : Int32).toNatClampNeg x3) (3 : Int32).toNatClampNeg x4) 0 hv) (cwV 2 hB (gx_gV bw759 bw760 bw38 bw53 bw761) rfl rfl rfl (by decide +kernel) ⟨(Nat.le_of_ble_eq_true rfl), (Nat.le_of_ble_eq_true rfl)⟩) (gx_rpreV (ci := 8) (hP.sub (ws' := (wdMd_nearestTo q_this q_palette q_before r_samples r_isGiven r_gives r_colours r_many r_group r_row r_channelOf r_spreads r_boxMany r_there r_groupMany r_means r_sums r_has r_takers r_takenSums r_order q_before r_roundSums r_carried c_palette c_before n_palette n_before f_thrown_3 f_width f_height f_different f_groups f_rowSize f_ready f_size f_rounds f_palette (upd (upd (upd (upd f_before (0 : Int32).toNatClampNeg x1) (1 : Int32).toNatClampNeg x2) (2 : Int32).toNatClampNeg x3) (3 : Int32).toNatClampNeg x4))) [0, 1, 2] rfl) (hK.sub (tys' := [(c_palette, .int), (c_before, .int)]) [0, 1] rfl) hZ hS hA rfl rfl) rfl rfl hl.1 rfl (lv_room (Nat.le_of_ble_eq_true rfl)) dMd_nearest_52 ⟨(Nat.le_of_ble_eq_true rfl), (Nat.le_of_ble_eq_true rfl)⟩) hP hS hA (fun r_15 H locs hv hP hS => ?_)
    exact W.iret (v := r_15) hx hb hr (fun t ht hW => ⟨⟨_, (f_thrown_3, upd (upd (upd (upd f_before (0 : Int32).toNatClampNeg x1) (1 : Int32).toNatClampNeg x2) (2 : Int32).toNatClampNeg x3) (3 : Int32).toNatClampNeg x4), rfl, hv, by rw [ht]; exact hP, hD⟩, hS.F ht⟩) hS.2.2 dMd_nearest_55
  · have hv := hv.2 c_6
    refine lv_iconst (v := 0) hx hb dMd_nearest_15 (by decide) ?_
    exact W.iret (v := 0) hx hb hr (fun t ht hW => ⟨⟨_, (f_thrown_3, f_before), rfl, hv, by rw [ht]; exact hP, hD⟩, hS.F ht⟩) hS.2.2 dMd_nearest_16
abbrev wdMd_sum (q_this q_roundSums r_samples r_isGiven r_gives r_colours r_many r_group r_row r_channelOf r_spreads r_boxMany r_there r_groupMany r_means r_sums r_palette r_has r_takers r_takenSums r_order r_before r_carried : Nat) (c_roundSums : ClassId) (n_roundSums : Nat) (f_thrown : Int32) (f_width : Int32) (f_height : Int32) (f_different : Int32) (f_groups : Int32) (f_rowSize : Int32) (f_ready : Int32) (f_size : Int32) (f_rounds : Int32) (f_roundSums : Nat → Int64) : va_W := [(q_this, .inr (8, [.int f_thrown, .int f_width, .int f_height, .ref r_samples, .ref r_isGiven, .ref r_gives, .int f_different, .ref r_colours, .ref r_many, .ref r_group, .int f_groups, .ref r_row, .int f_rowSize, .ref r_channelOf, .ref r_spreads, .ref r_boxMany, .ref r_there, .ref r_groupMany, .ref r_means, .ref r_sums, .int f_ready, .int f_size, .ref r_palette, .ref r_has, .ref r_takers, .ref r_takenSums, .ref r_order, .ref r_before, .int f_rounds, .ref q_roundSums, .ref r_carried])), (q_roundSums, .inl (c_roundSums, n_roundSums, .inr (.inl f_roundSums)))]
set_option maxHeartbeats 4000000 in
set_option maxRecDepth 100000 in
theorem metMd_sum (l : Launch) (dC : Nat → ClassId) (dI : Nat → Nat → Nat) (q_this q_roundSums r_samples r_isGiven r_gives r_colours r_many r_group r_row r_channelOf r_spreads r_boxMany r_there r_groupMany r_means r_sums r_palette r_has r_takers r_takenSums r_order r_before r_carried : Nat) (c_roundSums : ClassId) (n_roundSums : Nat) (sz : Nat) (f_thrown : Int32) (f_width : Int32) (f_height : Int32) (f_different : Int32) (f_groups : Int32) (f_rowSize : Int32) (f_ready : Int32) (f_size : Int32) (f_rounds : Int32) (f_roundSums : Nat → Int64) (x1 : Int32) {post : Int64 → Int32 → Prop} (hw : wpMd_sum n_roundSums f_thrown f_width f_height f_different f_groups f_rowSize f_ready f_size f_rounds f_roundSums x1 post) : Met l yMd_sum (.code yMd_sum bMd_sum 2 (some .long) :: BIG) ({ frames := 1, cells := 0, slots := 0, locals := 21 }) (va_Pc [.ref q_this, .int x1] (gx_pre (dC, dI) vwCl (wdMd_sum q_this q_roundSums r_samples r_isGiven r_gives r_colours r_many r_group r_row r_channelOf r_spreads r_boxMany r_there r_groupMany r_means r_sums r_palette r_has r_takers r_takenSums r_order r_before r_carried c_roundSums n_roundSums f_thrown f_width f_height f_different f_groups f_rowSize f_ready f_size f_rounds f_roundSums) [(c_roundSums, .long)] sz)) (va_Ql (fun r (u : Int32) => post r u) (gx_B (dC, dI) vwCl (va_A (wdMd_sum q_this q_roundSums r_samples r_isGiven r_gives r_colours r_many r_group r_row r_channelOf r_spreads r_boxMany r_there r_groupMany r_means r_sums r_palette r_has r_takers r_takenSums r_order r_before r_carried c_roundSums n_roundSums f_thrown f_width f_height f_different f_groups f_rowSize f_ready f_size f_rounds f_roundSums) sz) (fun (u : Int32) => (wdMd_sum q_this q_roundSums r_samples r_isGiven r_gives r_colours r_many r_group r_row r_channelOf r_spreads r_boxMany r_there r_groupMany r_means r_sums r_palette r_has r_takers r_takenSums r_order r_before r_carried c_roundSums n_roundSums u f_width f_height f_different f_groups f_rowSize f_ready f_size f_rounds f_roundSums))) (va_A (wdMd_sum q_this q_roundSums r_samples r_isGiven r_gives r_colours r_many r_group r_row r_channelOf r_spreads r_boxMany r_there r_groupMany r_means r_sums r_palette r_has r_takers r_takenSums r_order r_before r_carried c_roundSums n_roundSums f_thrown f_width f_height f_different f_groups f_rowSize f_ready f_size f_rounds f_roundSums) sz)) 0 0 (va_A (wdMd_sum q_this q_roundSums r_samples r_isGiven r_gives r_colours r_many r_group r_row r_channelOf r_spreads r_boxMany r_there r_groupMany r_means r_sums r_palette r_has r_takers r_takenSums r_order r_before r_carried c_roundSums n_roundSums f_thrown f_width f_height f_different f_groups f_rowSize f_ready f_size f_rounds f_roundSums) sz) := by
  refine Met.ofW (cc := bMd_sum) (maxL := 2) (ret := (some .long)) (by decide) rfl ?_
  intro p e s m args below meth c s₁ B hml hv
  obtain ⟨rfl, hsz, hP, hK, hD0, hZ⟩ := hv
  have hx := B.exec
  have hb := B.bytes
  have hr := B.returns
  have hts := atoms_spec (ws := (.code yMd_sum bMd_sum 2 (some .long) :: BIG)) B.pre
  have hB : ∀ w ∈ BIG, w.before _ s = true := fun w h => hts w (List.mem_cons_of_mem _ h)
  have hown : s.vm.findClass RMd = some m.cls := findClass_of_methodNamed B.named
  have hlocks := B.notSynchronized
  subst hsz
  have hD := hD0.self (sz := s.heap.size)
  generalize hAe : va_A (wdMd_sum q_this q_roundSums r_samples r_isGiven r_gives r_colours r_many r_group r_row r_channelOf r_spreads r_boxMany r_there r_groupMany r_means r_sums r_palette r_has r_takers r_takenSums r_order r_before r_carried c_roundSums n_roundSums f_thrown f_width f_height f_different f_groups f_rowSize f_ready f_size f_rounds f_roundSums) s.heap.size = A at hD hZ ⊢
  have hA : ∀ q : Nat, s.heap.size ≤ q → A q := fun q h => by rw [← hAe]; exact Or.inr h
  have hS : va_S A s.heap s.heap [] := va_S.rf
  have hl := lv_entry ([.ref q_this, .int x1]) (n := 2) (Nat.le_of_ble_eq_true rfl)
  rw [lg_entry_eq]
  generalize (lg_sl ([.ref q_this, .int x1]) ++ List.replicate (2 - (lg_sl ([.ref q_this, .int x1])).length) Slot.unset).toArray = ls at hl ⊢
  have hl : lv_has ls 2 [(0, .ref q_this), (1, .int x1)] := hl
  have hL72 := (hB _ bw644)
  have hL175 := (hB _ bw643)
  refine gx_abs (fun G eG => ?_)
  have j34 : ∀ (s0 : Int64) (f_thrown : Int32), vcMd_sum_34 n_roundSums f_width f_height f_different f_groups f_rowSize f_ready f_size f_rounds f_roundSums x1 post s0 f_thrown → ∀ (H : Heap) (locs : List Loc) (ls : Array Slot), va_P (dC, dI) vwCl (wdMd_sum q_this q_roundSums r_samples r_isGiven r_gives r_colours r_many r_group r_row r_channelOf r_spreads r_boxMany r_there r_groupMany r_means r_sums r_palette r_has r_takers r_takenSums r_order r_before r_carried c_roundSums n_roundSums f_thrown f_width f_height f_different f_groups f_rowSize f_ready f_size f_rounds f_roundSums) H → va_D A (wdMd_sum q_this q_roundSums r_samples r_isGiven r_gives r_colours r_many r_group r_row r_channelOf r_spreads r_boxMany r_there r_groupMany r_means r_sums r_palette r_has r_takers r_takenSums r_order r_before r_carried c_roundSums n_roundSums f_thrown f_width f_height f_different f_groups f_rowSize f_ready f_size f_rounds f_roundSums) → va_S A s.heap H locs → lv_has ls 2 [] → G H locs 0 0 (F0 m 34 ls [.long s0]) := by
    intro s0 f_thrown hv H locs ls hP hD hS hl
    rw [eG]
    unfold vcMd_sum_34 at hv
    exact W.lret (v := s0) hx hb hr (fun t ht hW => ⟨⟨_, f_thrown, rfl, hv, by rw [ht]; exact hP, hD⟩, hS.F ht⟩) hS.2.2 dMd_sum_34
  rw [eG] at j34
  have j18 : ∀ (s0 : Int32), vcMd_sum_18 n_roundSums f_width f_height f_different f_groups f_rowSize f_ready f_size f_rounds f_roundSums x1 post s0 f_thrown → ∀ (H : Heap) (locs : List Loc) (ls : Array Slot), va_P (dC, dI) vwCl (wdMd_sum q_this q_roundSums r_samples r_isGiven r_gives r_colours r_many r_group r_row r_channelOf r_spreads r_boxMany r_there r_groupMany r_means r_sums r_palette r_has r_takers r_takenSums r_order r_before r_carried c_roundSums n_roundSums f_thrown f_width f_height f_different f_groups f_rowSize f_ready f_size f_rounds f_roundSums) H → va_D A (wdMd_sum q_this q_roundSums r_samples r_isGiven r_gives r_colours r_many r_group r_row r_channelOf r_spreads r_boxMany r_there r_groupMany r_means r_sums r_palette r_has r_takers r_takenSums r_order r_before r_carried c_roundSums n_roundSums f_thrown f_width f_height f_different f_groups f_rowSize f_ready f_size f_rounds f_roundSums) → va_S A s.heap H locs → lv_has ls 2 [(0, .ref q_this), (1, .int x1)] → G H locs 0 0 (F0 m 18 ls [.int s0, .ref q_this]) := by
    intro s0 hv H locs ls hP hD hS hl
    rw [eG]
    unfold vcMd_sum_18 at hv
    have hFc := va_free (wc := (wdMd_tells q_this r_samples r_isGiven r_gives r_colours r_many r_group r_row r_channelOf r_spreads r_boxMany r_there r_groupMany r_means r_sums r_palette r_has r_takers r_takenSums r_order r_before q_roundSums r_carried f_thrown f_width f_height f_different f_groups f_rowSize f_ready f_size f_rounds)) hD hS hA [0] rfl
    refine gx_i (wr := [(q_roundSums, .inl (c_roundSums, n_roundSums, .inr (.inl f_roundSums)))]) (va_runV (As := [.int s0]) (rest := []) ⟨hx, hb, hml, hown, hB⟩ (metMd_tells l dC dI q_this r_samples r_isGiven r_gives r_colours r_many r_group r_row r_channelOf r_spreads r_boxMany r_there r_groupMany r_means r_sums r_palette r_has r_takers r_takenSums r_order r_before q_roundSums r_carried H.size f_thrown f_width f_height f_different f_groups f_rowSize f_ready f_size f_rounds s0 hv) (cwV 1 hB (gx_gV bw772 bw773 bw41 bw53 bw774) rfl rfl rfl (by decide +kernel) ⟨(Nat.le_of_ble_eq_true rfl), (Nat.le_of_ble_eq_true rfl)⟩) (gx_preV (ci := 8) (hP.sub (ws' := (wdMd_tells q_this r_samples r_isGiven r_gives r_colours r_many r_group r_row r_channelOf r_spreads r_boxMany r_there r_groupMany r_means r_sums r_palette r_has r_takers r_takenSums r_order r_before q_roundSums r_carried f_thrown f_width f_height f_different f_groups f_rowSize f_ready f_size f_rounds)) [0] rfl) (hK.sub (tys' := []) [] rfl) (hD.sub (ws' := (wdMd_tells q_this r_samples r_isGiven r_gives r_colours r_many r_group r_row r_channelOf r_spreads r_boxMany r_there r_groupMany r_means r_sums r_palette r_has r_takers r_takenSums r_order r_before q_roundSums r_carried f_thrown f_width f_height f_different f_groups f_rowSize f_ready f_size f_rounds)) [0] (by decide) rfl) hZ hS hFc rfl rfl) rfl rfl hl.1 rfl (lv_room (Nat.le_of_ble_eq_true rfl)) dMd_sum_18 ⟨(Nat.le_of_ble_eq_true rfl), (Nat.le_of_ble_eq_true rfl)⟩) hP hD hS hFc [0] [1] rfl rfl (by decide) (by decide) (fun r_2 u_3 H locs hv hP hD hS => ?_)
    obtain ⟨f_thrown_1, rfl⟩ : ∃ z, z = u_3 := ⟨_, rfl⟩
    have hP : va_P (dC, dI) vwCl (wdMd_sum q_this q_roundSums r_samples r_isGiven r_gives r_colours r_many r_group r_row r_channelOf r_spreads r_boxMany r_there r_groupMany r_means r_sums r_palette r_has r_takers r_takenSums r_order r_before r_carried c_roundSums n_roundSums f_thrown_1 f_width f_height f_different f_groups f_rowSize f_ready f_size f_rounds f_roundSums) H := hP.sub [1, 0] rfl
    have hD : va_D A (wdMd_sum q_this q_roundSums r_samples r_isGiven r_gives r_colours r_many r_group r_row r_channelOf r_spreads r_boxMany r_there r_groupMany r_means r_sums r_palette r_has r_takers r_takenSums r_order r_before r_carried c_roundSums n_roundSums f_thrown_1 f_width f_height f_different f_groups f_rowSize f_ready f_size f_rounds f_roundSums) := hD.sub [1, 0] (by decide) rfl
    refine lv_if_eq (tgt := 33) hx hb dMd_sum_21 (by decide) (fun c_4 => ?_) (fun c_4 => ?_)
    · have hv := hv.1 c_4
      refine lv_lconst (v := 0) hx hb dMd_sum_33 (by decide) ?_
      exact j34 0 f_thrown_1 hv _ _ _ hP hD hS (lv_sub hl [] rfl)
    · have hv := hv.2 c_4
      refine lv_aload_n hx hb dMd_sum_24 rfl (lv_at hl 0 rfl) ?_
      refine va_get (D := (dC, dI)) (ci := 8) (v := .ref q_roundSums) (C := RMd) (T := TMd) (N := 31) hx hb hB hiMd hown hK hP 0 rfl rfl 29 (by decide) hL72 (fun _ h9 => h9) rfl dMd_sum_25 ?_
      refine lv_iload_n hx hb dMd_sum_28 rfl (lv_at hl 1 rfl) ?_
      obtain ⟨h_5, hv⟩ := hv
      refine va_lald hx hb hK hP 1 0 rfl rfl h_5 dMd_sum_29 ?_
      refine lv_goto (tgt := 34) hx hb dMd_sum_30 (by decide) ?_
      exact j34 (f_roundSums x1.toNatClampNeg) f_thrown_1 hv _ _ _ hP hD hS (lv_sub hl [] rfl)
  rw [eG] at j18
  have j17 : vcMd_sum_17 n_roundSums f_width f_height f_different f_groups f_rowSize f_ready f_size f_rounds f_roundSums x1 post f_thrown → ∀ (H : Heap) (locs : List Loc) (ls : Array Slot), va_P (dC, dI) vwCl (wdMd_sum q_this q_roundSums r_samples r_isGiven r_gives r_colours r_many r_group r_row r_channelOf r_spreads r_boxMany r_there r_groupMany r_means r_sums r_palette r_has r_takers r_takenSums r_order r_before r_carried c_roundSums n_roundSums f_thrown f_width f_height f_different f_groups f_rowSize f_ready f_size f_rounds f_roundSums) H → va_D A (wdMd_sum q_this q_roundSums r_samples r_isGiven r_gives r_colours r_many r_group r_row r_channelOf r_spreads r_boxMany r_there r_groupMany r_means r_sums r_palette r_has r_takers r_takenSums r_order r_before r_carried c_roundSums n_roundSums f_thrown f_width f_height f_different f_groups f_rowSize f_ready f_size f_rounds f_roundSums) → va_S A s.heap H locs → lv_has ls 2 [(0, .ref q_this), (1, .int x1)] → G H locs 0 0 (F0 m 17 ls [.ref q_this]) := by
    intro  hv H locs ls hP hD hS hl
    rw [eG]
    unfold vcMd_sum_17 at hv
    refine lv_iconst (v := 0) hx hb dMd_sum_17 (by decide) ?_
    exact j18 0 hv _ _ _ hP hD hS (lv_sub hl [0, 1] rfl)
  rw [eG] at j17
  unfold wpMd_sum at hw
  have hv := hw
  rw [eG]
  refine lv_aload_n hx hb dMd_sum_0 rfl (lv_at hl 0 rfl) ?_
  refine lv_iload_n hx hb dMd_sum_1 rfl (lv_at hl 1 rfl) ?_
  refine lv_if_lt (tgt := 17) hx hb dMd_sum_2 (by decide) (fun c_6 => ?_) (fun c_6 => ?_)
  · have hv := hv.1 c_6
    exact j17  hv _ _ _ hP hD hS (lv_sub hl [0, 1] rfl)
  · have hv := hv.2 c_6
    refine lv_iload_n hx hb dMd_sum_5 rfl (lv_at hl 1 rfl) ?_
    refine lv_aload_n hx hb dMd_sum_6 rfl (lv_at hl 0 rfl) ?_
    refine va_get (D := (dC, dI)) (ci := 8) (v := .int f_rounds) (C := RMd) (T := TMd) (N := 31) hx hb hB hiMd hown hK hP 0 rfl rfl 28 (by decide) hL175 (fun _ h9 => h9) rfl dMd_sum_7 ?_
    refine lv_icmp_gt (tgt := 17) hx hb dMd_sum_10 (by decide) (fun c_7 => ?_) (fun c_7 => ?_)
    · have hv := hv.1 c_7
      exact j17  hv _ _ _ hP hD hS (lv_sub hl [0, 1] rfl)
    · have hv := hv.2 c_7
      refine lv_iconst (v := 1) hx hb dMd_sum_13 (by decide) ?_
      refine lv_goto (tgt := 18) hx hb dMd_sum_14 (by decide) ?_
      exact j18 1 hv _ _ _ hP hD hS (lv_sub hl [0, 1] rfl)
abbrev wdMd_brought  : va_W := []
set_option maxHeartbeats 4000000 in
set_option maxRecDepth 100000 in
theorem metMd_brought (l : Launch) (dC : Nat → ClassId) (dI : Nat → Nat → Nat) (sz : Nat) (x0 : Int32) {post : Int32 → Prop} (hw : wpMd_brought x0 post) : Met l yMd_brought (.code yMd_brought bMd_brought 1 (some .int) :: BIG) ({ frames := 0, cells := 0, slots := 0, locals := 0 }) (va_Pc [.int x0] (gx_rpre (dC, dI) vwCl wdMd_brought [] sz)) (va_Qi (fun r (u : Unit) => post r ) (fun _ _ => True) (fun q : Nat => sz ≤ q)) 0 0 (fun q : Nat => sz ≤ q) := by
  refine Met.ofW (cc := bMd_brought) (maxL := 1) (ret := (some .int)) (by decide) rfl ?_
  intro p e s m args below meth c s₁ B hml hv
  obtain ⟨rfl, hsz, hP, hK, hZ⟩ := hv
  have hx := B.exec
  have hb := B.bytes
  have hr := B.returns
  have hts := atoms_spec (ws := (.code yMd_brought bMd_brought 1 (some .int) :: BIG)) B.pre
  have hB : ∀ w ∈ BIG, w.before _ s = true := fun w h => hts w (List.mem_cons_of_mem _ h)
  have hown : s.vm.findClass RMd = some m.cls := findClass_of_methodNamed B.named
  have hlocks := B.notSynchronized
  subst hsz
  have hA : ∀ q : Nat, s.heap.size ≤ q → (fun q : Nat => s.heap.size ≤ q) q := fun _ h => h
  have hS : va_S (fun q : Nat => s.heap.size ≤ q) s.heap s.heap [] := va_S.rf
  have hl := lv_entry ([.int x0]) (n := 1) (Nat.le_of_ble_eq_true rfl)
  rw [lg_entry_eq]
  generalize (lg_sl ([.int x0]) ++ List.replicate (1 - (lg_sl ([.int x0])).length) Slot.unset).toArray = ls at hl ⊢
  have hl : lv_has ls 1 [(0, .int x0)] := hl
  refine gx_abs (fun G eG => ?_)
  have j22 : ∀ (s0 : Int32), vcMd_brought_22 x0 post s0 → ∀ (H : Heap) (locs : List Loc) (ls : Array Slot), va_P (dC, dI) vwCl wdMd_brought H → va_S (fun q : Nat => s.heap.size ≤ q) s.heap H locs → lv_has ls 1 [] → G H locs 0 0 (F0 m 22 ls [.int s0]) := by
    intro s0 hv H locs ls hP hS hl
    rw [eG]
    unfold vcMd_brought_22 at hv
    exact W.iret (v := s0) hx hb hr (fun t ht hW => ⟨⟨_, (), rfl, hv, trivial⟩, hS.F ht⟩) hS.2.2 dMd_brought_22
  rw [eG] at j22
  unfold wpMd_brought at hw
  have hv := hw
  rw [eG]
  refine lv_iload_n hx hb dMd_brought_0 rfl (lv_at hl 0 rfl) ?_
  refine lv_if_ge (tgt := 8) hx hb dMd_brought_1 (by decide) (fun c_1 => ?_) (fun c_1 => ?_)
  · have hv := hv.1 c_1
    refine lv_iload_n hx hb dMd_brought_8 rfl (lv_at hl 0 rfl) ?_
    refine lv_sipush (v := 255) hx hb dMd_brought_9 (by decide) ?_
    refine lv_icmp_le (tgt := 21) hx hb dMd_brought_12 (by decide) (fun c_2 => ?_) (fun c_2 => ?_)
    · have hv := hv.1 c_2
      refine lv_iload_n hx hb dMd_brought_21 rfl (lv_at hl 0 rfl) ?_
      exact j22 x0 hv _ _ _ hP hS (lv_sub hl [] rfl)
    · have hv := hv.2 c_2
      refine lv_sipush (v := 255) hx hb dMd_brought_15 (by decide) ?_
      refine lv_goto (tgt := 22) hx hb dMd_brought_18 (by decide) ?_
      exact j22 255 hv _ _ _ hP hS (lv_sub hl [] rfl)
  · have hv := hv.2 c_1
    refine lv_iconst (v := 0) hx hb dMd_brought_4 (by decide) ?_
    refine lv_goto (tgt := 22) hx hb dMd_brought_5 (by decide) ?_
    exact j22 0 hv _ _ _ hP hS (lv_sub hl [] rfl)
abbrev wdMd_missed (q_this q_samples q_palette q_has q_before q_carried r_isGiven r_gives r_colours r_many r_group r_row r_channelOf r_spreads r_boxMany r_there r_groupMany r_means r_sums r_takers r_takenSums r_order r_roundSums : Nat) (c_samples c_palette c_has c_before c_carried : ClassId) (n_samples n_palette n_has n_before n_carried : Nat) (f_thrown : Int32) (f_width : Int32) (f_height : Int32) (f_different : Int32) (f_groups : Int32) (f_rowSize : Int32) (f_ready : Int32) (f_size : Int32) (f_rounds : Int32) (f_samples : Nat → Int32) (f_palette : Nat → Int32) (f_has : Nat → Int32) (f_before : Nat → Int32) (f_carried : Nat → Int32) : va_W := [(q_this, .inr (8, [.int f_thrown, .int f_width, .int f_height, .ref q_samples, .ref r_isGiven, .ref r_gives, .int f_different, .ref r_colours, .ref r_many, .ref r_group, .int f_groups, .ref r_row, .int f_rowSize, .ref r_channelOf, .ref r_spreads, .ref r_boxMany, .ref r_there, .ref r_groupMany, .ref r_means, .ref r_sums, .int f_ready, .int f_size, .ref q_palette, .ref q_has, .ref r_takers, .ref r_takenSums, .ref r_order, .ref q_before, .int f_rounds, .ref r_roundSums, .ref q_carried])), (q_samples, .inl (c_samples, n_samples, .inl f_samples)), (q_palette, .inl (c_palette, n_palette, .inl f_palette)), (q_has, .inl (c_has, n_has, .inl f_has)), (q_before, .inl (c_before, n_before, .inl f_before)), (q_carried, .inl (c_carried, n_carried, .inl f_carried))]
set_option maxHeartbeats 4000000 in
set_option maxRecDepth 100000 in
theorem metMd_missed (l : Launch) (dC : Nat → ClassId) (dI : Nat → Nat → Nat) (q_this q_samples q_palette q_has q_before q_carried r_isGiven r_gives r_colours r_many r_group r_row r_channelOf r_spreads r_boxMany r_there r_groupMany r_means r_sums r_takers r_takenSums r_order r_roundSums : Nat) (c_samples c_palette c_has c_before c_carried : ClassId) (n_samples n_palette n_has n_before n_carried : Nat) (sz : Nat) (f_thrown : Int32) (f_width : Int32) (f_height : Int32) (f_different : Int32) (f_groups : Int32) (f_rowSize : Int32) (f_ready : Int32) (f_size : Int32) (f_rounds : Int32) (f_samples : Nat → Int32) (f_palette : Nat → Int32) (f_has : Nat → Int32) (f_before : Nat → Int32) (f_carried : Nat → Int32) (x1 : Int32) (x2 : Int32) (x3 : Int32) {post : (Nat → Int32) → (Nat → Int32) → (Nat → Int32) → Prop} (hw : wpMd_missed n_samples n_palette n_has n_before n_carried f_thrown f_width f_height f_different f_groups f_rowSize f_ready f_size f_rounds f_samples f_palette f_has f_before f_carried x1 x2 x3 post) : Met l yMd_missed (.code yMd_missed bMd_missed 8 none :: BIG) ({ frames := 2, cells := 0, slots := 0, locals := 52 }) (va_Pc [.ref q_this, .int x1, .int x2, .int x3] (gx_pre (dC, dI) vwCl (wdMd_missed q_this q_samples q_palette q_has q_before q_carried r_isGiven r_gives r_colours r_many r_group r_row r_channelOf r_spreads r_boxMany r_there r_groupMany r_means r_sums r_takers r_takenSums r_order r_roundSums c_samples c_palette c_has c_before c_carried n_samples n_palette n_has n_before n_carried f_thrown f_width f_height f_different f_groups f_rowSize f_ready f_size f_rounds f_samples f_palette f_has f_before f_carried) [(c_samples, .int), (c_palette, .int), (c_has, .int), (c_before, .int), (c_carried, .int)] sz)) (va_Qv (fun (u : (Nat → Int32) × (Nat → Int32) × (Nat → Int32)) => post u.1 u.2.1 u.2.2) (gx_B (dC, dI) vwCl (va_A (wdMd_missed q_this q_samples q_palette q_has q_before q_carried r_isGiven r_gives r_colours r_many r_group r_row r_channelOf r_spreads r_boxMany r_there r_groupMany r_means r_sums r_takers r_takenSums r_order r_roundSums c_samples c_palette c_has c_before c_carried n_samples n_palette n_has n_before n_carried f_thrown f_width f_height f_different f_groups f_rowSize f_ready f_size f_rounds f_samples f_palette f_has f_before f_carried) sz) (fun (u : (Nat → Int32) × (Nat → Int32) × (Nat → Int32)) => (wdMd_missed q_this q_samples q_palette q_has q_before q_carried r_isGiven r_gives r_colours r_many r_group r_row r_channelOf r_spreads r_boxMany r_there r_groupMany r_means r_sums r_takers r_takenSums r_order r_roundSums c_samples c_palette c_has c_before c_carried n_samples n_palette n_has n_before n_carried f_thrown f_width f_height f_different f_groups f_rowSize f_ready f_size f_rounds f_samples f_palette u.1 u.2.1 u.2.2))) (va_A (wdMd_missed q_this q_samples q_palette q_has q_before q_carried r_isGiven r_gives r_colours r_many r_group r_row r_channelOf r_spreads r_boxMany r_there r_groupMany r_means r_sums r_takers r_takenSums r_order r_roundSums c_samples c_palette c_has c_before c_carried n_samples n_palette n_has n_before n_carried f_thrown f_width f_height f_different f_groups f_rowSize f_ready f_size f_rounds f_samples f_palette f_has f_before f_carried) sz)) 0 0 (va_A (wdMd_missed q_this q_samples q_palette q_has q_before q_carried r_isGiven r_gives r_colours r_many r_group r_row r_channelOf r_spreads r_boxMany r_there r_groupMany r_means r_sums r_takers r_takenSums r_order r_roundSums c_samples c_palette c_has c_before c_carried n_samples n_palette n_has n_before n_carried f_thrown f_width f_height f_different f_groups f_rowSize f_ready f_size f_rounds f_samples f_palette f_has f_before f_carried) sz) := by
  refine Met.ofW (cc := bMd_missed) (maxL := 8) (ret := none) (by decide) rfl ?_
  intro p e s m args below meth c s₁ B hml hv
  obtain ⟨rfl, hsz, hP, hK, hD0, hZ⟩ := hv
  have hx := B.exec
  have hb := B.bytes
  have hr := B.returns
  have hts := atoms_spec (ws := (.code yMd_missed bMd_missed 8 none :: BIG)) B.pre
  have hB : ∀ w ∈ BIG, w.before _ s = true := fun w h => hts w (List.mem_cons_of_mem _ h)
  have hown : s.vm.findClass RMd = some m.cls := findClass_of_methodNamed B.named
  have hlocks := B.notSynchronized
  subst hsz
  have hD := hD0.self (sz := s.heap.size)
  generalize hAe : va_A (wdMd_missed q_this q_samples q_palette q_has q_before q_carried r_isGiven r_gives r_colours r_many r_group r_row r_channelOf r_spreads r_boxMany r_there r_groupMany r_means r_sums r_takers r_takenSums r_order r_roundSums c_samples c_palette c_has c_before c_carried n_samples n_palette n_has n_before n_carried f_thrown f_width f_height f_different f_groups f_rowSize f_ready f_size f_rounds f_samples f_palette f_has f_before f_carried) s.heap.size = A at hD hZ ⊢
  have hA : ∀ q : Nat, s.heap.size ≤ q → A q := fun q h => by rw [← hAe]; exact Or.inr h
  have hS : va_S A s.heap s.heap [] := va_S.rf
  have hl := lv_entry ([.ref q_this, .int x1, .int x2, .int x3]) (n := 8) (Nat.le_of_ble_eq_true rfl)
  rw [lg_entry_eq]
  generalize (lg_sl ([.ref q_this, .int x1, .int x2, .int x3]) ++ List.replicate (8 - (lg_sl ([.ref q_this, .int x1, .int x2, .int x3])).length) Slot.unset).toArray = ls at hl ⊢
  have hl : lv_has ls 8 [(0, .ref q_this), (1, .int x1), (2, .int x2), (3, .int x3)] := hl
  have hL7 := (hB _ bw618)
  have hL54 := (hB _ bw637)
  have hL57 := (hB _ bw638)
  have hL69 := (hB _ bw642)
  have hL75 := (hB _ bw645)
  have hL78 := (hB _ bw616)
  have hL82 := (hB _ bw617)
  refine gx_abs (fun G eG => ?_)
  obtain ⟨K13, eK13⟩ : ∃ K : Int32 → Int32 → (Nat → Int32) → (Nat → Int32) → (Nat → Int32) → Prop, K = fun v4 v5 f_has f_before f_carried => ∀ (H : Heap) (locs : List Loc) (ls : Array Slot), va_P (dC, dI) vwCl (wdMd_missed q_this q_samples q_palette q_has q_before q_carried r_isGiven r_gives r_colours r_many r_group r_row r_channelOf r_spreads r_boxMany r_there r_groupMany r_means r_sums r_takers r_takenSums r_order r_roundSums c_samples c_palette c_has c_before c_carried n_samples n_palette n_has n_before n_carried f_thrown f_width f_height f_different f_groups f_rowSize f_ready f_size f_rounds f_samples f_palette f_has f_before f_carried) H → va_D A (wdMd_missed q_this q_samples q_palette q_has q_before q_carried r_isGiven r_gives r_colours r_many r_group r_row r_channelOf r_spreads r_boxMany r_there r_groupMany r_means r_sums r_takers r_takenSums r_order r_roundSums c_samples c_palette c_has c_before c_carried n_samples n_palette n_has n_before n_carried f_thrown f_width f_height f_different f_groups f_rowSize f_ready f_size f_rounds f_samples f_palette f_has f_before f_carried) → va_S A s.heap H locs → lv_has ls 8 [(0, .ref q_this), (1, .int x1), (2, .int x2), (3, .int x3), (4, .int v4), (5, .int v5)] → G H locs 0 0 (F0 m 13 ls []) := ⟨_, rfl⟩
  obtain ⟨K102, eK102⟩ : ∃ K : Int32 → Int32 → Int32 → (Nat → Int32) → (Nat → Int32) → (Nat → Int32) → Prop, K = fun v4 v5 v6 f_has f_before f_carried => ∀ (H : Heap) (locs : List Loc) (ls : Array Slot), va_P (dC, dI) vwCl (wdMd_missed q_this q_samples q_palette q_has q_before q_carried r_isGiven r_gives r_colours r_many r_group r_row r_channelOf r_spreads r_boxMany r_there r_groupMany r_means r_sums r_takers r_takenSums r_order r_roundSums c_samples c_palette c_has c_before c_carried n_samples n_palette n_has n_before n_carried f_thrown f_width f_height f_different f_groups f_rowSize f_ready f_size f_rounds f_samples f_palette f_has f_before f_carried) H → va_D A (wdMd_missed q_this q_samples q_palette q_has q_before q_carried r_isGiven r_gives r_colours r_many r_group r_row r_channelOf r_spreads r_boxMany r_there r_groupMany r_means r_sums r_takers r_takenSums r_order r_roundSums c_samples c_palette c_has c_before c_carried n_samples n_palette n_has n_before n_carried f_thrown f_width f_height f_different f_groups f_rowSize f_ready f_size f_rounds f_samples f_palette f_has f_before f_carried) → va_S A s.heap H locs → lv_has ls 8 [(0, .ref q_this), (2, .int x2), (3, .int x3), (4, .int v4), (5, .int v5), (6, .int v6)] → G H locs 0 0 (F0 m 102 ls []) := ⟨_, rfl⟩
  have j216 : ∀ (v4 : Int32) (v5 : Int32) (v6 : Int32) (f_has : Nat → Int32) (f_before : Nat → Int32) (f_carried : Nat → Int32), vcMd_missed_216 n_samples n_palette n_has n_before n_carried f_thrown f_width f_height f_different f_groups f_rowSize f_ready f_size f_rounds f_samples f_palette x1 x2 x3 K13 K102 post v4 v5 v6 f_has f_before f_carried → ∀ (H : Heap) (locs : List Loc) (ls : Array Slot), va_P (dC, dI) vwCl (wdMd_missed q_this q_samples q_palette q_has q_before q_carried r_isGiven r_gives r_colours r_many r_group r_row r_channelOf r_spreads r_boxMany r_there r_groupMany r_means r_sums r_takers r_takenSums r_order r_roundSums c_samples c_palette c_has c_before c_carried n_samples n_palette n_has n_before n_carried f_thrown f_width f_height f_different f_groups f_rowSize f_ready f_size f_rounds f_samples f_palette f_has f_before f_carried) H → va_D A (wdMd_missed q_this q_samples q_palette q_has q_before q_carried r_isGiven r_gives r_colours r_many r_group r_row r_channelOf r_spreads r_boxMany r_there r_groupMany r_means r_sums r_takers r_takenSums r_order r_roundSums c_samples c_palette c_has c_before c_carried n_samples n_palette n_has n_before n_carried f_thrown f_width f_height f_different f_groups f_rowSize f_ready f_size f_rounds f_samples f_palette f_has f_before f_carried) → va_S A s.heap H locs → lv_has ls 8 [(0, .ref q_this), (2, .int x2), (3, .int x3), (4, .int v4), (5, .int v5), (6, .int v6)] → G H locs 0 0 (F0 m 216 ls []) := by
    intro v4 v5 v6 f_has f_before f_carried hv H locs ls hP hD hS hl
    rw [eG]
    unfold vcMd_missed_216 at hv
    refine lv_iinc (v := v6 + 1) (lv' := [(6, .int (v6 + 1)), (0, .ref q_this), (2, .int x2), (3, .int x3), (4, .int v4), (5, .int v5)]) hx hb dMd_missed_216 hl (k := 5) rfl rfl (by decide) rfl (fun ls hl => ?_)
    refine lv_goto (tgt := 102) hx hb dMd_missed_219 (by decide) ?_
    rw [eK102, eG] at hv
    exact hv _ _ _ hP hD hS (lv_sub hl [1, 2, 3, 4, 5, 0] rfl)
  rw [eG] at j216
  have j179 : ∀ (v4 : Int32) (v5 : Int32) (v6 : Int32) (v7 : Int32) (f_has : Nat → Int32) (f_before : Nat → Int32) (f_carried : Nat → Int32), vcMd_missed_179 n_samples n_palette n_has n_before n_carried f_thrown f_width f_height f_different f_groups f_rowSize f_ready f_size f_rounds f_samples f_palette x1 x2 x3 K13 K102 post v4 v5 v6 v7 f_has f_before f_carried → ∀ (H : Heap) (locs : List Loc) (ls : Array Slot), va_P (dC, dI) vwCl (wdMd_missed q_this q_samples q_palette q_has q_before q_carried r_isGiven r_gives r_colours r_many r_group r_row r_channelOf r_spreads r_boxMany r_there r_groupMany r_means r_sums r_takers r_takenSums r_order r_roundSums c_samples c_palette c_has c_before c_carried n_samples n_palette n_has n_before n_carried f_thrown f_width f_height f_different f_groups f_rowSize f_ready f_size f_rounds f_samples f_palette f_has f_before f_carried) H → va_D A (wdMd_missed q_this q_samples q_palette q_has q_before q_carried r_isGiven r_gives r_colours r_many r_group r_row r_channelOf r_spreads r_boxMany r_there r_groupMany r_means r_sums r_takers r_takenSums r_order r_roundSums c_samples c_palette c_has c_before c_carried n_samples n_palette n_has n_before n_carried f_thrown f_width f_height f_different f_groups f_rowSize f_ready f_size f_rounds f_samples f_palette f_has f_before f_carried) → va_S A s.heap H locs → lv_has ls 8 [(0, .ref q_this), (2, .int x2), (3, .int x3), (4, .int v4), (5, .int v5), (6, .int v6), (7, .int v7)] → G H locs 0 0 (F0 m 179 ls []) := by
    intro v4 v5 v6 v7 f_has f_before f_carried hv H locs ls hP hD hS hl
    rw [eG]
    unfold vcMd_missed_179 at hv
    refine lv_iload_n hx hb dMd_missed_179 rfl (lv_at hl 1 rfl) ?_
    refine lv_iconst (v := 1) hx hb dMd_missed_180 (by decide) ?_
    refine lv_iadd hx hb dMd_missed_181 ?_
    refine lv_aload_n hx hb dMd_missed_182 rfl (lv_at hl 0 rfl) ?_
    refine va_get (D := (dC, dI)) (ci := 8) (v := .int f_height) (C := RMd) (T := TMd) (N := 31) hx hb hB hiMd hown hK hP 0 rfl rfl 2 (by decide) hL82 (fun _ h9 => h9) rfl dMd_missed_183 ?_
    refine lv_icmp_ge (tgt := 216) hx hb dMd_missed_186 (by decide) (fun c_1 => ?_) (fun c_1 => ?_)
    · have hv := hv.1 c_1
      exact j216 v4 v5 v6 f_has f_before f_carried hv _ _ _ hP hD hS (lv_sub hl [0, 1, 2, 3, 4, 5] rfl)
    · have hv := hv.2 c_1
      refine lv_aload_n hx hb dMd_missed_189 rfl (lv_at hl 0 rfl) ?_
      refine va_get (D := (dC, dI)) (ci := 8) (v := .ref q_carried) (C := RMd) (T := TMd) (N := 31) hx hb hB hiMd hown hK hP 0 rfl rfl 30 (by decide) hL75 (fun _ h9 => h9) rfl dMd_missed_190 ?_
      refine lv_iconst (v := 4) hx hb dMd_missed_193 (by decide) ?_
      refine lv_iload hx hb dMd_missed_194 (lv_at hl 3 rfl) ?_
      refine lv_aload_n hx hb dMd_missed_196 rfl (lv_at hl 0 rfl) ?_
      refine va_get (D := (dC, dI)) (ci := 8) (v := .int f_width) (C := RMd) (T := TMd) (N := 31) hx hb hB hiMd hown hK hP 0 rfl rfl 1 (by decide) hL78 (fun _ h9 => h9) rfl dMd_missed_197 ?_
      refine lv_iadd hx hb dMd_missed_200 ?_
      refine lv_imul hx hb dMd_missed_201 ?_
      refine lv_iload hx hb dMd_missed_202 (lv_at hl 5 rfl) ?_
      refine lv_iadd hx hb dMd_missed_204 ?_
      refine lv_dup2_11 hx hb dMd_missed_205 rfl rfl ?_
      obtain ⟨h_2, hv⟩ := hv
      refine va_iald hx hb hK hP 5 4 rfl rfl h_2 dMd_missed_206 ?_
      refine lv_iload hx hb dMd_missed_207 (lv_at hl 6 rfl) ?_
      refine lv_iload hx hb dMd_missed_209 (lv_at hl 6 rfl) ?_
      refine lv_iconst (v := 2) hx hb dMd_missed_211 (by decide) ?_
      obtain ⟨h_3, hv⟩ := hv
      refine lv_idiv hx hb dMd_missed_212 h_3 ?_
      refine lv_isub hx hb dMd_missed_213 ?_
      refine lv_iadd hx hb dMd_missed_214 ?_
      obtain ⟨h_4, hv⟩ := hv
      refine va_iast hx hb hK hP hD hS 5 4 rfl rfl h_4 dMd_missed_215 (fun H locs hP hD hS => ?_)
      have hP : va_P (dC, dI) vwCl (wdMd_missed q_this q_samples q_palette q_has q_before q_carried r_isGiven r_gives r_colours r_many r_group r_row r_channelOf r_spreads r_boxMany r_there r_groupMany r_means r_sums r_takers r_takenSums r_order r_roundSums c_samples c_palette c_has c_before c_carried n_samples n_palette n_has n_before n_carried f_thrown f_width f_height f_different f_groups f_rowSize f_ready f_size f_rounds f_samples f_palette f_has f_before (upd f_carried ((4 * (v4 + f_width)) + v6).toNatClampNeg ((f_carried ((4 * (v4 + f_width)) + v6).toNatClampNeg) + (v7 - (v7 / 2))))) H := hP
      have hD : va_D A (wdMd_missed q_this q_samples q_palette q_has q_before q_carried r_isGiven r_gives r_colours r_many r_group r_row r_channelOf r_spreads r_boxMany r_there r_groupMany r_means r_sums r_takers r_takenSums r_order r_roundSums c_samples c_palette c_has c_before c_carried n_samples n_palette n_has n_before n_carried f_thrown f_width f_height f_different f_groups f_rowSize f_ready f_size f_rounds f_samples f_palette f_has f_before (upd f_carried ((4 * (v4 + f_width)) + v6).toNatClampNeg ((f_carried ((4 * (v4 + f_width)) + v6).toNatClampNeg) + (v7 - (v7 / 2))))) := hD
      exact j216 v4 v5 v6 f_has f_before (upd f_carried ((4 * (v4 + f_width)) + v6).toNatClampNeg ((f_carried ((4 * (v4 + f_width)) + v6).toNatClampNeg) + (v7 - (v7 / 2)))) hv _ _ _ hP hD hS (lv_sub hl [0, 1, 2, 3, 4, 5] rfl)
  rw [eG] at j179
  have j97 : ∀ (v4 : Int32) (s0 : Int32) (f_has : Nat → Int32) (f_before : Nat → Int32) (f_carried : Nat → Int32), vcMd_missed_97 n_samples n_palette n_has n_before n_carried f_thrown f_width f_height f_different f_groups f_rowSize f_ready f_size f_rounds f_samples f_palette x1 x2 x3 K13 K102 post v4 s0 f_has f_before f_carried → ∀ (H : Heap) (locs : List Loc) (ls : Array Slot), va_P (dC, dI) vwCl (wdMd_missed q_this q_samples q_palette q_has q_before q_carried r_isGiven r_gives r_colours r_many r_group r_row r_channelOf r_spreads r_boxMany r_there r_groupMany r_means r_sums r_takers r_takenSums r_order r_roundSums c_samples c_palette c_has c_before c_carried n_samples n_palette n_has n_before n_carried f_thrown f_width f_height f_different f_groups f_rowSize f_ready f_size f_rounds f_samples f_palette f_has f_before f_carried) H → va_D A (wdMd_missed q_this q_samples q_palette q_has q_before q_carried r_isGiven r_gives r_colours r_many r_group r_row r_channelOf r_spreads r_boxMany r_there r_groupMany r_means r_sums r_takers r_takenSums r_order r_roundSums c_samples c_palette c_has c_before c_carried n_samples n_palette n_has n_before n_carried f_thrown f_width f_height f_different f_groups f_rowSize f_ready f_size f_rounds f_samples f_palette f_has f_before f_carried) → va_S A s.heap H locs → lv_has ls 8 [(0, .ref q_this), (2, .int x2), (3, .int x3), (4, .int v4)] → G H locs 0 0 (F0 m 97 ls [.int s0]) := by
    intro v4 s0 f_has f_before f_carried hv H locs ls hP hD hS hl
    rw [eG]
    unfold vcMd_missed_97 at hv
    refine lv_istore (lv' := [(5, .int s0), (0, .ref q_this), (2, .int x2), (3, .int x3), (4, .int v4)]) hx hb dMd_missed_97 hl (by decide) rfl (fun ls hl => ?_)
    refine lv_iconst (v := 0) hx hb dMd_missed_99 (by decide) ?_
    refine lv_istore (lv' := [(6, .int 0), (5, .int s0), (0, .ref q_this), (2, .int x2), (3, .int x3), (4, .int v4)]) hx hb dMd_missed_100 hl (by decide) rfl (fun ls hl => ?_)
    rw [eK102, eG] at hv
    exact hv _ _ _ hP hD hS (lv_sub hl [2, 3, 4, 5, 1, 0] rfl)
  rw [eG] at j97
  have j96 : ∀ (v4 : Int32) (f_has : Nat → Int32) (f_before : Nat → Int32) (f_carried : Nat → Int32), vcMd_missed_96 n_samples n_palette n_has n_before n_carried f_thrown f_width f_height f_different f_groups f_rowSize f_ready f_size f_rounds f_samples f_palette x1 x2 x3 K13 K102 post v4 f_has f_before f_carried → ∀ (H : Heap) (locs : List Loc) (ls : Array Slot), va_P (dC, dI) vwCl (wdMd_missed q_this q_samples q_palette q_has q_before q_carried r_isGiven r_gives r_colours r_many r_group r_row r_channelOf r_spreads r_boxMany r_there r_groupMany r_means r_sums r_takers r_takenSums r_order r_roundSums c_samples c_palette c_has c_before c_carried n_samples n_palette n_has n_before n_carried f_thrown f_width f_height f_different f_groups f_rowSize f_ready f_size f_rounds f_samples f_palette f_has f_before f_carried) H → va_D A (wdMd_missed q_this q_samples q_palette q_has q_before q_carried r_isGiven r_gives r_colours r_many r_group r_row r_channelOf r_spreads r_boxMany r_there r_groupMany r_means r_sums r_takers r_takenSums r_order r_roundSums c_samples c_palette c_has c_before c_carried n_samples n_palette n_has n_before n_carried f_thrown f_width f_height f_different f_groups f_rowSize f_ready f_size f_rounds f_samples f_palette f_has f_before f_carried) → va_S A s.heap H locs → lv_has ls 8 [(0, .ref q_this), (2, .int x2), (3, .int x3), (4, .int v4)] → G H locs 0 0 (F0 m 96 ls []) := by
    intro v4 f_has f_before f_carried hv H locs ls hP hD hS hl
    rw [eG]
    unfold vcMd_missed_96 at hv
    refine lv_iconst (v := 0) hx hb dMd_missed_96 (by decide) ?_
    exact j97 v4 0 f_has f_before f_carried hv _ _ _ hP hD hS (lv_sub hl [0, 1, 2, 3] rfl)
  rw [eG] at j96
  unfold wpMd_missed at hw
  have hv := hw K13 K102
  have hv := hv (by
    intro v4 v5 f_has f_before f_carried hv
    rw [eK13]
    intro H locs ls hP hD hS hl
    rw [eG]
    unfold vcMd_missed_13 at hv
    refine lv_iload hx hb dMd_missed_13 (lv_at hl 5 rfl) ?_
    refine lv_iconst (v := 4) hx hb dMd_missed_15 (by decide) ?_
    refine lv_icmp_ge (tgt := 60) hx hb dMd_missed_16 (by decide) (fun c_6 => ?_) (fun c_6 => ?_)
    · have hv := hv.1 c_6
      refine lv_aload_n hx hb dMd_missed_60 rfl (lv_at hl 0 rfl) ?_
      refine va_get (D := (dC, dI)) (ci := 8) (v := .ref q_has) (C := RMd) (T := TMd) (N := 31) hx hb hB hiMd hown hK hP 0 rfl rfl 23 (by decide) hL57 (fun _ h9 => h9) rfl dMd_missed_61 ?_
      refine lv_iload hx hb dMd_missed_64 (lv_at hl 4 rfl) ?_
      refine lv_aload_n hx hb dMd_missed_66 rfl (lv_at hl 0 rfl) ?_
      refine lv_aload_n hx hb dMd_missed_67 rfl (lv_at hl 0 rfl) ?_
      refine va_get (D := (dC, dI)) (ci := 8) (v := .ref q_before) (C := RMd) (T := TMd) (N := 31) hx hb hB hiMd hown hK hP 0 rfl rfl 27 (by decide) hL69 (fun _ h9 => h9) rfl dMd_missed_68 ?_
      refine lv_iconst (v := 0) hx hb dMd_missed_71 (by decide) ?_
      refine gx_ri (va_runV (As := [.ref q_before, .int 0]) (rest := [.int v4, .ref q_has]) ⟨hx, hb, hml, hown, hB⟩ (metMd_nearestTo l dC dI q_this q_palette q_before q_samples r_isGiven r_gives r_colours r_many r_group r_row r_channelOf r_spreads r_boxMany r_there r_groupMany r_means r_sums q_has r_takers r_takenSums r_order q_before r_roundSums q_carried c_palette c_before n_palette n_before H.size f_thrown f_width f_height f_different f_groups f_rowSize f_ready f_size f_rounds f_palette f_before 0 hv) (cwV 2 hB (gx_gV bw759 bw760 bw38 bw53 bw761) rfl rfl rfl (by decide +kernel) ⟨(Nat.le_of_ble_eq_true rfl), (Nat.le_of_ble_eq_true rfl)⟩) (gx_rpreV (ci := 8) (hP.sub (ws' := (wdMd_nearestTo q_this q_palette q_before q_samples r_isGiven r_gives r_colours r_many r_group r_row r_channelOf r_spreads r_boxMany r_there r_groupMany r_means r_sums q_has r_takers r_takenSums r_order q_before r_roundSums q_carried c_palette c_before n_palette n_before f_thrown f_width f_height f_different f_groups f_rowSize f_ready f_size f_rounds f_palette f_before)) [0, 2, 4] rfl) (hK.sub (tys' := [(c_palette, .int), (c_before, .int)]) [1, 3] rfl) hZ hS hA rfl rfl) rfl rfl hl.1 rfl (lv_room (Nat.le_of_ble_eq_true rfl)) dMd_missed_72 ⟨(Nat.le_of_ble_eq_true rfl), (Nat.le_of_ble_eq_true rfl)⟩) hP hS hA (fun r_7 H locs hv hP hS => ?_)
      obtain ⟨h_9, hv⟩ := hv
      refine va_iast hx hb hK hP hD hS 3 2 rfl rfl h_9 dMd_missed_75 (fun H locs hP hD hS => ?_)
      have hP : va_P (dC, dI) vwCl (wdMd_missed q_this q_samples q_palette q_has q_before q_carried r_isGiven r_gives r_colours r_many r_group r_row r_channelOf r_spreads r_boxMany r_there r_groupMany r_means r_sums r_takers r_takenSums r_order r_roundSums c_samples c_palette c_has c_before c_carried n_samples n_palette n_has n_before n_carried f_thrown f_width f_height f_different f_groups f_rowSize f_ready f_size f_rounds f_samples f_palette (upd f_has v4.toNatClampNeg r_7) f_before f_carried) H := hP
      have hD : va_D A (wdMd_missed q_this q_samples q_palette q_has q_before q_carried r_isGiven r_gives r_colours r_many r_group r_row r_channelOf r_spreads r_boxMany r_there r_groupMany r_means r_sums r_takers r_takenSums r_order r_roundSums c_samples c_palette c_has c_before c_carried n_samples n_palette n_has n_before n_carried f_thrown f_width f_height f_different f_groups f_rowSize f_ready f_size f_rounds f_samples f_palette (upd f_has v4.toNatClampNeg r_7) f_before f_carried) := hD
      refine lv_iload_n hx hb dMd_missed_76 rfl (lv_at hl 1 rfl) ?_
      refine lv_iload_n hx hb dMd_missed_77 rfl (lv_at hl 3 rfl) ?_
      refine lv_iadd hx hb dMd_missed_78 ?_
      refine lv_if_lt (tgt := 96) hx hb dMd_missed_79 (by decide) (fun c_11 => ?_) (fun c_11 => ?_)
      · have hv := hv.1 c_11
        exact j96 v4 (upd f_has v4.toNatClampNeg r_7) f_before f_carried hv _ _ _ hP hD hS (lv_sub hl [0, 2, 3, 4] rfl)
      · have hv := hv.2 c_11
        refine lv_iload_n hx hb dMd_missed_82 rfl (lv_at hl 1 rfl) ?_
        refine lv_iload_n hx hb dMd_missed_83 rfl (lv_at hl 3 rfl) ?_
        refine lv_iadd hx hb dMd_missed_84 ?_
        refine lv_aload_n hx hb dMd_missed_85 rfl (lv_at hl 0 rfl) ?_
        refine va_get (D := (dC, dI)) (ci := 8) (v := .int f_width) (C := RMd) (T := TMd) (N := 31) hx hb hB hiMd hown hK hP 0 rfl rfl 1 (by decide) hL78 (fun _ h9 => h9) rfl dMd_missed_86 ?_
        refine lv_icmp_ge (tgt := 96) hx hb dMd_missed_89 (by decide) (fun c_12 => ?_) (fun c_12 => ?_)
        · have hv := hv.1 c_12
          exact j96 v4 (upd f_has v4.toNatClampNeg r_7) f_before f_carried hv _ _ _ hP hD hS (lv_sub hl [0, 2, 3, 4] rfl)
        · have hv := hv.2 c_12
          refine lv_iconst (v := 1) hx hb dMd_missed_92 (by decide) ?_
          refine lv_goto (tgt := 97) hx hb dMd_missed_93 (by decide) ?_
          exact j97 v4 1 (upd f_has v4.toNatClampNeg r_7) f_before f_carried hv _ _ _ hP hD hS (lv_sub hl [0, 2, 3, 4] rfl)
    · have hv := hv.2 c_6
      refine lv_aload_n hx hb dMd_missed_19 rfl (lv_at hl 0 rfl) ?_
      refine va_get (D := (dC, dI)) (ci := 8) (v := .ref q_before) (C := RMd) (T := TMd) (N := 31) hx hb hB hiMd hown hK hP 0 rfl rfl 27 (by decide) hL69 (fun _ h9 => h9) rfl dMd_missed_20 ?_
      refine lv_iload hx hb dMd_missed_23 (lv_at hl 5 rfl) ?_
      refine lv_aload_n hx hb dMd_missed_25 rfl (lv_at hl 0 rfl) ?_
      refine va_get (D := (dC, dI)) (ci := 8) (v := .ref q_samples) (C := RMd) (T := TMd) (N := 31) hx hb hB hiMd hown hK hP 0 rfl rfl 3 (by decide) hL7 (fun _ h9 => h9) rfl dMd_missed_26 ?_
      refine lv_iconst (v := 4) hx hb dMd_missed_29 (by decide) ?_
      refine lv_iload hx hb dMd_missed_30 (lv_at hl 4 rfl) ?_
      refine lv_imul hx hb dMd_missed_32 ?_
      refine lv_iload hx hb dMd_missed_33 (lv_at hl 5 rfl) ?_
      refine lv_iadd hx hb dMd_missed_35 ?_
      obtain ⟨h_13, hv⟩ := hv
      refine va_iald hx hb hK hP 1 0 rfl rfl h_13 dMd_missed_36 ?_
      refine lv_aload_n hx hb dMd_missed_37 rfl (lv_at hl 0 rfl) ?_
      refine va_get (D := (dC, dI)) (ci := 8) (v := .ref q_carried) (C := RMd) (T := TMd) (N := 31) hx hb hB hiMd hown hK hP 0 rfl rfl 30 (by decide) hL75 (fun _ h9 => h9) rfl dMd_missed_38 ?_
      refine lv_iconst (v := 4) hx hb dMd_missed_41 (by decide) ?_
      refine lv_iload hx hb dMd_missed_42 (lv_at hl 4 rfl) ?_
      refine lv_imul hx hb dMd_missed_44 ?_
      refine lv_iload hx hb dMd_missed_45 (lv_at hl 5 rfl) ?_
      refine lv_iadd hx hb dMd_missed_47 ?_
      obtain ⟨h_14, hv⟩ := hv
      refine va_iald hx hb hK hP 5 4 rfl rfl h_14 dMd_missed_48 ?_
      refine lv_iadd hx hb dMd_missed_49 ?_
      refine gx_ri (va_runS (As := [.int ((f_samples ((4 * v4) + v5).toNatClampNeg) + (f_carried ((4 * v4) + v5).toNatClampNeg))]) (rest := [.int v5, .ref q_before]) ⟨hx, hb, hml, hown, hB⟩ (metMd_brought l dC dI H.size ((f_samples ((4 * v4) + v5).toNatClampNeg) + (f_carried ((4 * v4) + v5).toNatClampNeg)) hv) (va_cwS 1 hB (gx_gS bw794 bw795 bw53 bw796) rfl rfl rfl (by decide +kernel) ⟨(Nat.le_of_ble_eq_true rfl), (Nat.le_of_ble_eq_true rfl)⟩) (gx_rpreS (hP.sub (ws' := wdMd_brought) [] rfl) (hK.sub (tys' := []) [] rfl) hZ hS hA) rfl rfl hl.1 rfl (lv_room (Nat.le_of_ble_eq_true rfl)) dMd_missed_50 ⟨(Nat.le_of_ble_eq_true rfl), (Nat.le_of_ble_eq_true rfl)⟩) hP hS hA (fun r_15 H locs hv hP hS => ?_)
      obtain ⟨h_17, hv⟩ := hv
      refine va_iast hx hb hK hP hD hS 4 3 rfl rfl h_17 dMd_missed_53 (fun H locs hP hD hS => ?_)
      have hP : va_P (dC, dI) vwCl (wdMd_missed q_this q_samples q_palette q_has q_before q_carried r_isGiven r_gives r_colours r_many r_group r_row r_channelOf r_spreads r_boxMany r_there r_groupMany r_means r_sums r_takers r_takenSums r_order r_roundSums c_samples c_palette c_has c_before c_carried n_samples n_palette n_has n_before n_carried f_thrown f_width f_height f_different f_groups f_rowSize f_ready f_size f_rounds f_samples f_palette f_has (upd f_before v5.toNatClampNeg r_15) f_carried) H := hP
      have hD : va_D A (wdMd_missed q_this q_samples q_palette q_has q_before q_carried r_isGiven r_gives r_colours r_many r_group r_row r_channelOf r_spreads r_boxMany r_there r_groupMany r_means r_sums r_takers r_takenSums r_order r_roundSums c_samples c_palette c_has c_before c_carried n_samples n_palette n_has n_before n_carried f_thrown f_width f_height f_different f_groups f_rowSize f_ready f_size f_rounds f_samples f_palette f_has (upd f_before v5.toNatClampNeg r_15) f_carried) := hD
      refine lv_iinc (v := v5 + 1) (lv' := [(5, .int (v5 + 1)), (0, .ref q_this), (1, .int x1), (2, .int x2), (3, .int x3), (4, .int v4)]) hx hb dMd_missed_54 hl (k := 5) rfl rfl (by decide) rfl (fun ls hl => ?_)
      refine lv_goto (tgt := 13) hx hb dMd_missed_57 (by decide) ?_
      rw [eK13, eG] at hv
      exact hv _ _ _ hP hD hS (lv_sub hl [1, 2, 3, 4, 5, 0] rfl))
  have hv := hv (by
    intro v4 v5 v6 f_has f_before f_carried hv
    rw [eK102]
    intro H locs ls hP hD hS hl
    rw [eG]
    unfold vcMd_missed_102 at hv
    refine lv_iload hx hb dMd_missed_102 (lv_at hl 5 rfl) ?_
    refine lv_iconst (v := 4) hx hb dMd_missed_104 (by decide) ?_
    refine lv_icmp_ge (tgt := 222) hx hb dMd_missed_105 (by decide) (fun c_19 => ?_) (fun c_19 => ?_)
    · have hv := hv.1 c_19
      exact W.vret hx hb hr (fun t ht hW => ⟨⟨(f_has, f_before, f_carried), rfl, hv, by rw [ht]; exact hP, hD⟩, hS.F ht⟩) hS.2.2 dMd_missed_222
    · have hv := hv.2 c_19
      refine lv_aload_n hx hb dMd_missed_108 rfl (lv_at hl 0 rfl) ?_
      refine va_get (D := (dC, dI)) (ci := 8) (v := .ref q_samples) (C := RMd) (T := TMd) (N := 31) hx hb hB hiMd hown hK hP 0 rfl rfl 3 (by decide) hL7 (fun _ h9 => h9) rfl dMd_missed_109 ?_
      refine lv_iconst (v := 4) hx hb dMd_missed_112 (by decide) ?_
      refine lv_iload hx hb dMd_missed_113 (lv_at hl 3 rfl) ?_
      refine lv_imul hx hb dMd_missed_115 ?_
      refine lv_iload hx hb dMd_missed_116 (lv_at hl 5 rfl) ?_
      refine lv_iadd hx hb dMd_missed_118 ?_
      obtain ⟨h_20, hv⟩ := hv
      refine va_iald hx hb hK hP 1 0 rfl rfl h_20 dMd_missed_119 ?_
      refine lv_aload_n hx hb dMd_missed_120 rfl (lv_at hl 0 rfl) ?_
      refine va_get (D := (dC, dI)) (ci := 8) (v := .ref q_carried) (C := RMd) (T := TMd) (N := 31) hx hb hB hiMd hown hK hP 0 rfl rfl 30 (by decide) hL75 (fun _ h9 => h9) rfl dMd_missed_121 ?_
      refine lv_iconst (v := 4) hx hb dMd_missed_124 (by decide) ?_
      refine lv_iload hx hb dMd_missed_125 (lv_at hl 3 rfl) ?_
      refine lv_imul hx hb dMd_missed_127 ?_
      refine lv_iload hx hb dMd_missed_128 (lv_at hl 5 rfl) ?_
      refine lv_iadd hx hb dMd_missed_130 ?_
      obtain ⟨h_21, hv⟩ := hv
      refine va_iald hx hb hK hP 5 4 rfl rfl h_21 dMd_missed_131 ?_
      refine lv_iadd hx hb dMd_missed_132 ?_
      refine lv_aload_n hx hb dMd_missed_133 rfl (lv_at hl 0 rfl) ?_
      refine va_get (D := (dC, dI)) (ci := 8) (v := .ref q_palette) (C := RMd) (T := TMd) (N := 31) hx hb hB hiMd hown hK hP 0 rfl rfl 22 (by decide) hL54 (fun _ h9 => h9) rfl dMd_missed_134 ?_
      refine lv_iconst (v := 4) hx hb dMd_missed_137 (by decide) ?_
      refine lv_aload_n hx hb dMd_missed_138 rfl (lv_at hl 0 rfl) ?_
      refine va_get (D := (dC, dI)) (ci := 8) (v := .ref q_has) (C := RMd) (T := TMd) (N := 31) hx hb hB hiMd hown hK hP 0 rfl rfl 23 (by decide) hL57 (fun _ h9 => h9) rfl dMd_missed_139 ?_
      refine lv_iload hx hb dMd_missed_142 (lv_at hl 3 rfl) ?_
      obtain ⟨h_22, hv⟩ := hv
      refine va_iald hx hb hK hP 3 2 rfl rfl h_22 dMd_missed_144 ?_
      refine lv_imul hx hb dMd_missed_145 ?_
      refine lv_iload hx hb dMd_missed_146 (lv_at hl 5 rfl) ?_
      refine lv_iadd hx hb dMd_missed_148 ?_
      obtain ⟨h_23, hv⟩ := hv
      refine va_iald hx hb hK hP 2 1 rfl rfl h_23 dMd_missed_149 ?_
      refine lv_isub hx hb dMd_missed_150 ?_
      refine lv_topi (fun v7_24 ev7_24 => ?_)
      have hv := hv v7_24 ev7_24
      refine lv_istore (lv' := [(7, .int v7_24), (0, .ref q_this), (2, .int x2), (3, .int x3), (4, .int v4), (5, .int v5), (6, .int v6)]) hx hb dMd_missed_151 hl (by decide) rfl (fun ls hl => ?_)
      refine lv_iload hx hb dMd_missed_153 (lv_at hl 5 rfl) ?_
      refine lv_if_eq (tgt := 179) hx hb dMd_missed_155 (by decide) (fun c_25 => ?_) (fun c_25 => ?_)
      · have hv := hv.1 c_25
        exact j179 v4 v5 v6 v7_24 f_has f_before f_carried hv _ _ _ hP hD hS (lv_sub hl [1, 2, 3, 4, 5, 6, 0] rfl)
      · have hv := hv.2 c_25
        refine lv_aload_n hx hb dMd_missed_158 rfl (lv_at hl 1 rfl) ?_
        refine va_get (D := (dC, dI)) (ci := 8) (v := .ref q_carried) (C := RMd) (T := TMd) (N := 31) hx hb hB hiMd hown hK hP 0 rfl rfl 30 (by decide) hL75 (fun _ h9 => h9) rfl dMd_missed_159 ?_
        refine lv_iconst (v := 4) hx hb dMd_missed_162 (by decide) ?_
        refine lv_iload hx hb dMd_missed_163 (lv_at hl 4 rfl) ?_
        refine lv_iload_n hx hb dMd_missed_165 rfl (lv_at hl 3 rfl) ?_
        refine lv_iadd hx hb dMd_missed_166 ?_
        refine lv_imul hx hb dMd_missed_167 ?_
        refine lv_iload hx hb dMd_missed_168 (lv_at hl 6 rfl) ?_
        refine lv_iadd hx hb dMd_missed_170 ?_
        refine lv_dup2_11 hx hb dMd_missed_171 rfl rfl ?_
        obtain ⟨h_26, hv⟩ := hv
        refine va_iald hx hb hK hP 5 4 rfl rfl h_26 dMd_missed_172 ?_
        refine lv_iload hx hb dMd_missed_173 (lv_at hl 0 rfl) ?_
        refine lv_iconst (v := 2) hx hb dMd_missed_175 (by decide) ?_
        obtain ⟨h_27, hv⟩ := hv
        refine lv_idiv hx hb dMd_missed_176 h_27 ?_
        refine lv_iadd hx hb dMd_missed_177 ?_
        obtain ⟨h_28, hv⟩ := hv
        refine va_iast hx hb hK hP hD hS 5 4 rfl rfl h_28 dMd_missed_178 (fun H locs hP hD hS => ?_)
        have hP : va_P (dC, dI) vwCl (wdMd_missed q_this q_samples q_palette q_has q_before q_carried r_isGiven r_gives r_colours r_many r_group r_row r_channelOf r_spreads r_boxMany r_there r_groupMany r_means r_sums r_takers r_takenSums r_order r_roundSums c_samples c_palette c_has c_before c_carried n_samples n_palette n_has n_before n_carried f_thrown f_width f_height f_different f_groups f_rowSize f_ready f_size f_rounds f_samples f_palette f_has f_before (upd f_carried ((4 * (v4 + x3)) + v6).toNatClampNeg ((f_carried ((4 * (v4 + x3)) + v6).toNatClampNeg) + (v7_24 / 2)))) H := hP
        have hD : va_D A (wdMd_missed q_this q_samples q_palette q_has q_before q_carried r_isGiven r_gives r_colours r_many r_group r_row r_channelOf r_spreads r_boxMany r_there r_groupMany r_means r_sums r_takers r_takenSums r_order r_roundSums c_samples c_palette c_has c_before c_carried n_samples n_palette n_has n_before n_carried f_thrown f_width f_height f_different f_groups f_rowSize f_ready f_size f_rounds f_samples f_palette f_has f_before (upd f_carried ((4 * (v4 + x3)) + v6).toNatClampNeg ((f_carried ((4 * (v4 + x3)) + v6).toNatClampNeg) + (v7_24 / 2)))) := hD
        exact j179 v4 v5 v6 v7_24 f_has f_before (upd f_carried ((4 * (v4 + x3)) + v6).toNatClampNeg ((f_carried ((4 * (v4 + x3)) + v6).toNatClampNeg) + (v7_24 / 2))) hv _ _ _ hP hD hS (lv_sub hl [1, 2, 3, 4, 5, 6, 0] rfl))
  rw [eG]
  refine lv_aload_n hx hb dMd_missed_0 rfl (lv_at hl 0 rfl) ?_
  refine va_get (D := (dC, dI)) (ci := 8) (v := .int f_width) (C := RMd) (T := TMd) (N := 31) hx hb hB hiMd hown hK hP 0 rfl rfl 1 (by decide) hL78 (fun _ h9 => h9) rfl dMd_missed_1 ?_
  refine lv_iload_n hx hb dMd_missed_4 rfl (lv_at hl 2 rfl) ?_
  refine lv_imul hx hb dMd_missed_5 ?_
  refine lv_iload_n hx hb dMd_missed_6 rfl (lv_at hl 1 rfl) ?_
  refine lv_iadd hx hb dMd_missed_7 ?_
  refine lv_topi (fun v4_30 ev4_30 => ?_)
  have hv := hv v4_30 ev4_30
  refine lv_istore (lv' := [(4, .int v4_30), (0, .ref q_this), (1, .int x1), (2, .int x2), (3, .int x3)]) hx hb dMd_missed_8 hl (by decide) rfl (fun ls hl => ?_)
  refine lv_iconst (v := 0) hx hb dMd_missed_10 (by decide) ?_
  refine lv_istore (lv' := [(5, .int 0), (4, .int v4_30), (0, .ref q_this), (1, .int x1), (2, .int x2), (3, .int x3)]) hx hb dMd_missed_11 hl (by decide) rfl (fun ls hl => ?_)
  rw [eK13, eG] at hv
  exact hv _ _ _ hP hD hS (lv_sub hl [2, 3, 4, 5, 1, 0] rfl)
