abbrev wdCL_count (q_this q_held q_palette r_samples r_shades r_boxes r_pools r_offer r_fitting r_carry r_palette_levels : Nat) (c_held : ClassId) (n_held : Nat) (f_width : Int32) (f_height : Int32) (f_held : Nat → Int32) (f_palette_size : Int32) : va_W := [(q_this, .inr (7, [.int f_width, .int f_height, .ref r_samples, .ref q_held, .ref r_shades, .ref r_boxes, .ref r_pools, .ref r_offer, .ref q_palette, .ref r_fitting, .ref r_carry])), (q_held, .inl (c_held, n_held, .inl f_held)), (q_palette, .inr (4, [.ref r_palette_levels, .int f_palette_size]))]
set_option maxHeartbeats 4000000 in
set_option maxRecDepth 100000 in
theorem metCL_count (l : Launch) (dC : Nat → ClassId) (dI : Nat → Nat → Nat) (q_this q_held q_palette r_samples r_shades r_boxes r_pools r_offer r_fitting r_carry r_palette_levels : Nat) (c_held : ClassId) (n_held : Nat) (sz : Nat) (f_width : Int32) (f_height : Int32) (f_held : Nat → Int32) (f_palette_size : Int32) (x1 : Int32) {post : Int32 → Prop} (hw : wpCL_count n_held f_width f_height f_held f_palette_size x1 post) : Met l yCL_count (.code yCL_count bCL_count 4 (some .int) :: BIG) ({ frames := 7, cells := 0, slots := 0, locals := 121 }) (va_Pc [.ref q_this, .int x1] (gx_rpre (dC, dI) vwCl (wdCL_count q_this q_held q_palette r_samples r_shades r_boxes r_pools r_offer r_fitting r_carry r_palette_levels c_held n_held f_width f_height f_held f_palette_size) [(c_held, .int)] sz)) (va_Qi (fun r (u : Unit) => post r ) (fun _ _ => True) (fun q : Nat => sz ≤ q)) 0 0 (fun q : Nat => sz ≤ q) := by
  refine Met.ofW (cc := bCL_count) (maxL := 4) (ret := (some .int)) (by decide) rfl ?_
  intro p e s m args below meth c s₁ B hml hv
  obtain ⟨rfl, hsz, hP, hK, hZ⟩ := hv
  have hx := B.exec
  have hb := B.bytes
  have hr := B.returns
  have hts := atoms_spec (ws := (.code yCL_count bCL_count 4 (some .int) :: BIG)) B.pre
  have hB : ∀ w ∈ BIG, w.before _ s = true := fun w h => hts w (List.mem_cons_of_mem _ h)
  have hown : s.vm.findClass RCL = some m.cls := findClass_of_methodNamed B.named
  have hlocks := B.notSynchronized
  subst hsz
  have hA : ∀ q : Nat, s.heap.size ≤ q → (fun q : Nat => s.heap.size ≤ q) q := fun _ h => h
  have hS : va_S (fun q : Nat => s.heap.size ≤ q) s.heap s.heap [] := va_S.rf
  have hl := lv_entry ([.ref q_this, .int x1]) (n := 4) (Nat.le_of_ble_eq_true rfl)
  rw [lg_entry_eq]
  generalize (lg_sl ([.ref q_this, .int x1]) ++ List.replicate (4 - (lg_sl ([.ref q_this, .int x1])).length) Slot.unset).toArray = ls at hl ⊢
  have hl : lv_has ls 4 [(0, .ref q_this), (1, .int x1)] := hl
  have hL24 := (hB _ bw206)
  refine gx_abs (fun G eG => ?_)
  obtain ⟨K13, eK13⟩ : ∃ K : Int32 → Int32 → Prop, K = fun v2 v3 => ∀ (H : Heap) (locs : List Loc) (ls : Array Slot), va_P (dC, dI) vwCl (wdCL_count q_this q_held q_palette r_samples r_shades r_boxes r_pools r_offer r_fitting r_carry r_palette_levels c_held n_held f_width f_height f_held f_palette_size) H → va_S (fun q : Nat => s.heap.size ≤ q) s.heap H locs → lv_has ls 4 [(0, .ref q_this), (1, .int x1), (2, .int v2), (3, .int v3)] → G H locs 0 0 (F0 m 13 ls []) := ⟨_, rfl⟩
  have j35 : ∀ (v2 : Int32) (v3 : Int32), vcCL_count_35 n_held f_width f_height f_held f_palette_size x1 K13 post v2 v3 → ∀ (H : Heap) (locs : List Loc) (ls : Array Slot), va_P (dC, dI) vwCl (wdCL_count q_this q_held q_palette r_samples r_shades r_boxes r_pools r_offer r_fitting r_carry r_palette_levels c_held n_held f_width f_height f_held f_palette_size) H → va_S (fun q : Nat => s.heap.size ≤ q) s.heap H locs → lv_has ls 4 [(0, .ref q_this), (1, .int x1), (2, .int v2), (3, .int v3)] → G H locs 0 0 (F0 m 35 ls []) := by
    intro v2 v3 hv H locs ls hP hS hl
    rw [eG]
    unfold vcCL_count_35 at hv
    refine lv_iinc (v := v3 + 1) (lv' := [(3, .int (v3 + 1)), (0, .ref q_this), (1, .int x1), (2, .int v2)]) hx hb dCL_count_35 hl (k := 3) rfl rfl (by decide) rfl (fun ls hl => ?_)
    refine lv_goto (tgt := 13) hx hb dCL_count_38 (by decide) ?_
    rw [eK13, eG] at hv
    exact hv _ _ _ hP hS (lv_sub hl [1, 2, 3, 0] rfl)
  rw [eG] at j35
  unfold wpCL_count at hw
  have hv := hw K13
  have hv := hv (by
    intro v2 v3 hv
    rw [eK13]
    intro H locs ls hP hS hl
    rw [eG]
    unfold vcCL_count_13 at hv
    refine lv_iload_n hx hb dCL_count_13 rfl (lv_at hl 3 rfl) ?_
    refine lv_aload_n hx hb dCL_count_14 rfl (lv_at hl 0 rfl) ?_
    refine va_get (D := (dC, dI)) (ci := 7) (v := .ref q_held) (C := RCL) (T := TCL) (N := 11) hx hb hB hiCL hown hK hP 0 rfl rfl 3 (by decide) hL24 (fun _ h9 => h9) rfl dCL_count_15 ?_
    refine va_alen (v := nI n_held) hx hb hK hP 1 0 rfl rfl rfl dCL_count_18 ?_
    refine lv_icmp_ge (tgt := 41) hx hb dCL_count_19 (by decide) (fun c_1 => ?_) (fun c_1 => ?_)
    · have hv := hv.1 c_1
      refine lv_iload_n hx hb dCL_count_41 rfl (lv_at hl 2 rfl) ?_
      exact W.iret (v := v2) hx hb hr (fun t ht hW => ⟨⟨_, (), rfl, hv, trivial⟩, hS.F ht⟩) hS.2.2 dCL_count_42
    · have hv := hv.2 c_1
      refine lv_aload_n hx hb dCL_count_22 rfl (lv_at hl 0 rfl) ?_
      refine va_get (D := (dC, dI)) (ci := 7) (v := .ref q_held) (C := RCL) (T := TCL) (N := 11) hx hb hB hiCL hown hK hP 0 rfl rfl 3 (by decide) hL24 (fun _ h9 => h9) rfl dCL_count_23 ?_
      refine lv_iload_n hx hb dCL_count_26 rfl (lv_at hl 3 rfl) ?_
      obtain ⟨h_2, hv⟩ := hv
      refine va_iald hx hb hK hP 1 0 rfl rfl h_2 dCL_count_27 ?_
      refine lv_iload_n hx hb dCL_count_28 rfl (lv_at hl 1 rfl) ?_
      refine lv_icmp_ne (tgt := 35) hx hb dCL_count_29 (by decide) (fun c_3 => ?_) (fun c_3 => ?_)
      · have hv := hv.1 c_3
        exact j35 v2 v3 hv _ _ _ hP hS (lv_sub hl [0, 1, 2, 3] rfl)
      · have hv := hv.2 c_3
        refine lv_iinc (v := v2 + 1) (lv' := [(2, .int (v2 + 1)), (0, .ref q_this), (1, .int x1), (3, .int v3)]) hx hb dCL_count_32 hl (k := 2) rfl rfl (by decide) rfl (fun ls hl => ?_)
        exact j35 (v2 + 1) v3 hv _ _ _ hP hS (lv_sub hl [1, 2, 0, 3] rfl))
  rw [eG]
  refine lv_aload_n hx hb dCL_count_0 rfl (lv_at hl 0 rfl) ?_
  refine gx_rv (va_runV (As := []) (rest := []) ⟨hx, hb, hml, hown, hB⟩ (metCL_checkPalette l dC dI q_this q_palette r_samples q_held r_shades r_boxes r_pools r_offer r_fitting r_carry r_palette_levels s.heap.size f_width f_height f_palette_size hv) (cwV 0 hB (gx_gV bw523 bw524 bw19 bw44 bw525) rfl rfl rfl (by decide +kernel) ⟨(Nat.le_of_ble_eq_true rfl), (Nat.le_of_ble_eq_true rfl)⟩) (gx_rpreV (ci := 7) (hP.sub (ws' := (wdCL_checkPalette q_this q_palette r_samples q_held r_shades r_boxes r_pools r_offer r_fitting r_carry r_palette_levels f_width f_height f_palette_size)) [0, 2] rfl) (hK.sub (tys' := []) [] rfl) hZ hS hA rfl rfl) rfl rfl hl.1 rfl (lv_room (Nat.le_of_ble_eq_true rfl)) dCL_count_1 ⟨(Nat.le_of_ble_eq_true rfl), (Nat.le_of_ble_eq_true rfl)⟩) hP hS hA (fun H locs hv hP hS => ?_)
  refine lv_aload_n hx hb dCL_count_4 rfl (lv_at hl 0 rfl) ?_
  refine lv_iload_n hx hb dCL_count_5 rfl (lv_at hl 1 rfl) ?_
  refine gx_rv (va_runV (As := [.int x1]) (rest := []) ⟨hx, hb, hml, hown, hB⟩ (metCL_checkPaletteColour l dC dI q_this q_palette r_samples q_held r_shades r_boxes r_pools r_offer r_fitting r_carry r_palette_levels H.size f_width f_height f_palette_size x1 hv) (cwV 1 hB (gx_gV bw539 bw540 bw20 bw44 bw541) rfl rfl rfl (by decide +kernel) ⟨(Nat.le_of_ble_eq_true rfl), (Nat.le_of_ble_eq_true rfl)⟩) (gx_rpreV (ci := 7) (hP.sub (ws' := (wdCL_checkPaletteColour q_this q_palette r_samples q_held r_shades r_boxes r_pools r_offer r_fitting r_carry r_palette_levels f_width f_height f_palette_size)) [0, 2] rfl) (hK.sub (tys' := []) [] rfl) hZ hS hA rfl rfl) rfl rfl hl.1 rfl (lv_room (Nat.le_of_ble_eq_true rfl)) dCL_count_6 ⟨(Nat.le_of_ble_eq_true rfl), (Nat.le_of_ble_eq_true rfl)⟩) hP hS hA (fun H locs hv hP hS => ?_)
  refine lv_iconst (v := 0) hx hb dCL_count_9 (by decide) ?_
  refine lv_istore_n (lv' := [(2, .int 0), (0, .ref q_this), (1, .int x1)]) hx hb dCL_count_10 rfl hl (by decide) rfl (fun ls hl => ?_)
  refine lv_iconst (v := 0) hx hb dCL_count_11 (by decide) ?_
  refine lv_istore_n (lv' := [(3, .int 0), (2, .int 0), (0, .ref q_this), (1, .int x1)]) hx hb dCL_count_12 rfl hl (by decide) rfl (fun ls hl => ?_)
  rw [eK13, eG] at hv
  exact hv _ _ _ hP hS (lv_sub hl [2, 3, 1, 0] rfl)
abbrev wdCL_exact (q_this q_samples q_held q_palette q_palette_levels r_shades r_boxes r_pools r_offer r_fitting r_carry : Nat) (c_samples c_held c_palette_levels : ClassId) (n_samples n_held n_palette_levels : Nat) (f_width : Int32) (f_height : Int32) (f_samples : Nat → Int32) (f_held : Nat → Int32) (f_palette_size : Int32) (f_palette_levels : Nat → Int32) : va_W := [(q_this, .inr (7, [.int f_width, .int f_height, .ref q_samples, .ref q_held, .ref r_shades, .ref r_boxes, .ref r_pools, .ref r_offer, .ref q_palette, .ref r_fitting, .ref r_carry])), (q_samples, .inl (c_samples, n_samples, .inl f_samples)), (q_held, .inl (c_held, n_held, .inl f_held)), (q_palette, .inr (4, [.ref q_palette_levels, .int f_palette_size])), (q_palette_levels, .inl (c_palette_levels, n_palette_levels, .inl f_palette_levels))]
set_option maxHeartbeats 4000000 in
set_option maxRecDepth 100000 in
theorem metCL_exact (l : Launch) (dC : Nat → ClassId) (dI : Nat → Nat → Nat) (q_this q_samples q_held q_palette q_palette_levels r_shades r_boxes r_pools r_offer r_fitting r_carry : Nat) (c_samples c_held c_palette_levels : ClassId) (n_samples n_held n_palette_levels : Nat) (sz : Nat) (f_width : Int32) (f_height : Int32) (f_samples : Nat → Int32) (f_held : Nat → Int32) (f_palette_size : Int32) (f_palette_levels : Nat → Int32) {post : Int32 → Prop} (hw : wpCL_exact n_samples n_held n_palette_levels f_width f_height f_samples f_held f_palette_size f_palette_levels post) : Met l yCL_exact (.code yCL_exact bCL_exact 2 (some .boolean) :: BIG) ({ frames := 7, cells := 0, slots := 0, locals := 120 }) (va_Pc [.ref q_this] (gx_rpre (dC, dI) vwCl (wdCL_exact q_this q_samples q_held q_palette q_palette_levels r_shades r_boxes r_pools r_offer r_fitting r_carry c_samples c_held c_palette_levels n_samples n_held n_palette_levels f_width f_height f_samples f_held f_palette_size f_palette_levels) [(c_samples, .int), (c_held, .int), (c_palette_levels, .int)] sz)) (va_Qi (fun r (u : Unit) => post r ) (fun _ _ => True) (fun q : Nat => sz ≤ q)) 0 0 (fun q : Nat => sz ≤ q) := by
  refine Met.ofW (cc := bCL_exact) (maxL := 2) (ret := (some .boolean)) (by decide) rfl ?_
  intro p e s m args below meth c s₁ B hml hv
  obtain ⟨rfl, hsz, hP, hK, hZ⟩ := hv
  have hx := B.exec
  have hb := B.bytes
  have hr := B.returns
  have hts := atoms_spec (ws := (.code yCL_exact bCL_exact 2 (some .boolean) :: BIG)) B.pre
  have hB : ∀ w ∈ BIG, w.before _ s = true := fun w h => hts w (List.mem_cons_of_mem _ h)
  have hown : s.vm.findClass RCL = some m.cls := findClass_of_methodNamed B.named
  have hlocks := B.notSynchronized
  subst hsz
  have hA : ∀ q : Nat, s.heap.size ≤ q → (fun q : Nat => s.heap.size ≤ q) q := fun _ h => h
  have hS : va_S (fun q : Nat => s.heap.size ≤ q) s.heap s.heap [] := va_S.rf
  have hl := lv_entry ([.ref q_this]) (n := 2) (Nat.le_of_ble_eq_true rfl)
  rw [lg_entry_eq]
  generalize (lg_sl ([.ref q_this]) ++ List.replicate (2 - (lg_sl ([.ref q_this])).length) Slot.unset).toArray = ls at hl ⊢
  have hl : lv_has ls 2 [(0, .ref q_this)] := hl
  have hL20 := (hB _ bw205)
  have hL24 := (hB _ bw206)
  have hL60 := (hB _ bw211)
  refine gx_abs (fun G eG => ?_)
  obtain ⟨K6, eK6⟩ : ∃ K : Int32 → Prop, K = fun v1 => ∀ (H : Heap) (locs : List Loc) (ls : Array Slot), va_P (dC, dI) vwCl (wdCL_exact q_this q_samples q_held q_palette q_palette_levels r_shades r_boxes r_pools r_offer r_fitting r_carry c_samples c_held c_palette_levels n_samples n_held n_palette_levels f_width f_height f_samples f_held f_palette_size f_palette_levels) H → va_S (fun q : Nat => s.heap.size ≤ q) s.heap H locs → lv_has ls 2 [(0, .ref q_this), (1, .int v1)] → G H locs 0 0 (F0 m 6 ls []) := ⟨_, rfl⟩
  unfold wpCL_exact at hw
  have hv := hw K6
  have hv := hv (by
    intro v1 hv
    rw [eK6]
    intro H locs ls hP hS hl
    rw [eG]
    unfold vcCL_exact_6 at hv
    refine lv_iload_n hx hb dCL_exact_6 rfl (lv_at hl 1 rfl) ?_
    refine lv_aload_n hx hb dCL_exact_7 rfl (lv_at hl 0 rfl) ?_
    refine va_get (D := (dC, dI)) (ci := 7) (v := .ref q_samples) (C := RCL) (T := TCL) (N := 11) hx hb hB hiCL hown hK hP 0 rfl rfl 2 (by decide) hL20 (fun _ h9 => h9) rfl dCL_exact_8 ?_
    refine va_alen (v := nI n_samples) hx hb hK hP 1 0 rfl rfl rfl dCL_exact_11 ?_
    refine lv_icmp_ge (tgt := 45) hx hb dCL_exact_12 (by decide) (fun c_1 => ?_) (fun c_1 => ?_)
    · have hv := hv.1 c_1
      refine lv_iconst (v := 1) hx hb dCL_exact_45 (by decide) ?_
      obtain ⟨h_2, hv⟩ := hv
      exact W.zret (v := 1) hx hb hr h_2 (fun t ht hW => ⟨⟨_, (), rfl, hv, trivial⟩, hS.F ht⟩) hS.2.2 dCL_exact_46
    · have hv := hv.2 c_1
      refine lv_aload_n hx hb dCL_exact_15 rfl (lv_at hl 0 rfl) ?_
      refine va_get (D := (dC, dI)) (ci := 7) (v := .ref q_samples) (C := RCL) (T := TCL) (N := 11) hx hb hB hiCL hown hK hP 0 rfl rfl 2 (by decide) hL20 (fun _ h9 => h9) rfl dCL_exact_16 ?_
      refine lv_iload_n hx hb dCL_exact_19 rfl (lv_at hl 1 rfl) ?_
      obtain ⟨h_3, hv⟩ := hv
      refine va_iald hx hb hK hP 1 0 rfl rfl h_3 dCL_exact_20 ?_
      refine lv_aload_n hx hb dCL_exact_21 rfl (lv_at hl 0 rfl) ?_
      refine va_get (D := (dC, dI)) (ci := 7) (v := .ref q_palette) (C := RCL) (T := TCL) (N := 11) hx hb hB hiCL hown hK hP 0 rfl rfl 8 (by decide) hL60 (fun _ h9 => h9) rfl dCL_exact_22 ?_
      refine lv_aload_n hx hb dCL_exact_25 rfl (lv_at hl 0 rfl) ?_
      refine va_get (D := (dC, dI)) (ci := 7) (v := .ref q_held) (C := RCL) (T := TCL) (N := 11) hx hb hB hiCL hown hK hP 0 rfl rfl 3 (by decide) hL24 (fun _ h9 => h9) rfl dCL_exact_26 ?_
      refine lv_iload_n hx hb dCL_exact_29 rfl (lv_at hl 1 rfl) ?_
      obtain ⟨h_4, hv⟩ := hv
      refine va_iald hx hb hK hP 2 1 rfl rfl h_4 dCL_exact_30 ?_
      refine gx_ri (va_runV (As := [.int (f_held v1.toNatClampNeg)]) (rest := [.int (f_samples v1.toNatClampNeg)]) ⟨hx, hb, hml, hown, hB⟩ (metPa_packedOf l dC dI q_palette q_palette_levels c_palette_levels n_palette_levels H.size f_palette_size f_palette_levels (f_held v1.toNatClampNeg) hv) (cwV 1 hB (gx_gV bw608 bw484 bw485 bw50 bw486) rfl rfl rfl (by decide +kernel) ⟨(Nat.le_of_ble_eq_true rfl), (Nat.le_of_ble_eq_true rfl)⟩) (gx_rpreV (ci := 4) (hP.sub (ws' := (wdPa_packedOf q_palette q_palette_levels c_palette_levels n_palette_levels f_palette_size f_palette_levels)) [3, 4] rfl) (hK.sub (tys' := [(c_palette_levels, .int)]) [2] rfl) hZ hS hA rfl rfl) rfl rfl hl.1 rfl (lv_room (Nat.le_of_ble_eq_true rfl)) dCL_exact_31 ⟨(Nat.le_of_ble_eq_true rfl), (Nat.le_of_ble_eq_true rfl)⟩) hP hS hA (fun r_5 H locs hv hP hS => ?_)
      refine lv_icmp_eq (tgt := 39) hx hb dCL_exact_34 (by decide) (fun c_7 => ?_) (fun c_7 => ?_)
      · have hv := hv.1 c_7
        refine lv_iinc (v := v1 + 1) (lv' := [(1, .int (v1 + 1)), (0, .ref q_this)]) hx hb dCL_exact_39 hl (k := 1) rfl rfl (by decide) rfl (fun ls hl => ?_)
        refine lv_goto (tgt := 6) hx hb dCL_exact_42 (by decide) ?_
        rw [eK6, eG] at hv
        exact hv _ _ _ hP hS (lv_sub hl [1, 0] rfl)
      · have hv := hv.2 c_7
        refine lv_iconst (v := 0) hx hb dCL_exact_37 (by decide) ?_
        obtain ⟨h_8, hv⟩ := hv
        exact W.zret (v := 0) hx hb hr h_8 (fun t ht hW => ⟨⟨_, (), rfl, hv, trivial⟩, hS.F ht⟩) hS.2.2 dCL_exact_38)
  rw [eG]
  refine lv_aload_n hx hb dCL_exact_0 rfl (lv_at hl 0 rfl) ?_
  refine gx_rv (va_runV (As := []) (rest := []) ⟨hx, hb, hml, hown, hB⟩ (metCL_checkPalette l dC dI q_this q_palette q_samples q_held r_shades r_boxes r_pools r_offer r_fitting r_carry q_palette_levels s.heap.size f_width f_height f_palette_size hv) (cwV 0 hB (gx_gV bw523 bw524 bw19 bw44 bw525) rfl rfl rfl (by decide +kernel) ⟨(Nat.le_of_ble_eq_true rfl), (Nat.le_of_ble_eq_true rfl)⟩) (gx_rpreV (ci := 7) (hP.sub (ws' := (wdCL_checkPalette q_this q_palette q_samples q_held r_shades r_boxes r_pools r_offer r_fitting r_carry q_palette_levels f_width f_height f_palette_size)) [0, 3] rfl) (hK.sub (tys' := []) [] rfl) hZ hS hA rfl rfl) rfl rfl hl.1 rfl (lv_room (Nat.le_of_ble_eq_true rfl)) dCL_exact_1 ⟨(Nat.le_of_ble_eq_true rfl), (Nat.le_of_ble_eq_true rfl)⟩) hP hS hA (fun H locs hv hP hS => ?_)
  refine lv_iconst (v := 0) hx hb dCL_exact_4 (by decide) ?_
  refine lv_istore_n (lv' := [(1, .int 0), (0, .ref q_this)]) hx hb dCL_exact_5 rfl hl (by decide) rfl (fun ls hl => ?_)
  rw [eK6, eG] at hv
  exact hv _ _ _ hP hS (lv_sub hl [1, 0] rfl)
abbrev wdCL_told (q_this q_samples q_shades q_shades_tint q_shades_many q_shades_rank q_shades_keys q_offer q_palette r_held r_boxes r_pools r_fitting r_carry r_offer_tint r_offer_there r_palette_levels : Nat) (c_samples c_shades_tint c_shades_many c_shades_rank c_shades_keys : ClassId) (n_samples n_shades_tint n_shades_many n_shades_rank n_shades_keys : Nat) (f_width : Int32) (f_height : Int32) (f_samples : Nat → Int32) (f_shades_size : Int32) (f_shades_stale : Int32) (f_shades_tint : Nat → Int32) (f_shades_many : Nat → Int32) (f_shades_rank : Nat → Int32) (f_shades_keys : Nat → Int64) (f_offer_size : Int32) (f_palette_size : Int32) : va_W := [(q_this, .inr (7, [.int f_width, .int f_height, .ref q_samples, .ref r_held, .ref q_shades, .ref r_boxes, .ref r_pools, .ref q_offer, .ref q_palette, .ref r_fitting, .ref r_carry])), (q_samples, .inl (c_samples, n_samples, .inl f_samples)), (q_shades, .inr (6, [.ref q_shades_tint, .ref q_shades_many, .ref q_shades_rank, .ref q_shades_keys, .int f_shades_size, .int f_shades_stale])), (q_shades_tint, .inl (c_shades_tint, n_shades_tint, .inl f_shades_tint)), (q_shades_many, .inl (c_shades_many, n_shades_many, .inl f_shades_many)), (q_shades_rank, .inl (c_shades_rank, n_shades_rank, .inl f_shades_rank)), (q_shades_keys, .inl (c_shades_keys, n_shades_keys, .inr (.inl f_shades_keys))), (q_offer, .inr (3, [.ref r_offer_tint, .ref r_offer_there, .int f_offer_size])), (q_palette, .inr (4, [.ref r_palette_levels, .int f_palette_size]))]
set_option maxHeartbeats 4000000 in
set_option maxRecDepth 100000 in
theorem metCL_told (l : Launch) (dC : Nat → ClassId) (dI : Nat → Nat → Nat) (q_this q_samples q_shades q_shades_tint q_shades_many q_shades_rank q_shades_keys q_offer q_palette r_held r_boxes r_pools r_fitting r_carry r_offer_tint r_offer_there r_palette_levels : Nat) (c_samples c_shades_tint c_shades_many c_shades_rank c_shades_keys : ClassId) (n_samples n_shades_tint n_shades_many n_shades_rank n_shades_keys : Nat) (sz : Nat) (f_width : Int32) (f_height : Int32) (f_samples : Nat → Int32) (f_shades_size : Int32) (f_shades_stale : Int32) (f_shades_tint : Nat → Int32) (f_shades_many : Nat → Int32) (f_shades_rank : Nat → Int32) (f_shades_keys : Nat → Int64) (f_offer_size : Int32) (f_palette_size : Int32) (x1 : Int32) {post : Int32 → Int32 → Int32 → (Nat → Int32) → (Nat → Int32) → (Nat → Int32) → (Nat → Int64) → Prop} (hw : wpCL_told n_samples n_shades_tint n_shades_many n_shades_rank n_shades_keys f_width f_height f_samples f_shades_size f_shades_stale f_shades_tint f_shades_many f_shades_rank f_shades_keys f_offer_size f_palette_size x1 post) : Met l yCL_told (.code yCL_told bCL_told 2 (some .int) :: BIG) ({ frames := 3, cells := 0, slots := 0, locals := 76 }) (va_Pc [.ref q_this, .int x1] (gx_pre (dC, dI) vwCl (wdCL_told q_this q_samples q_shades q_shades_tint q_shades_many q_shades_rank q_shades_keys q_offer q_palette r_held r_boxes r_pools r_fitting r_carry r_offer_tint r_offer_there r_palette_levels c_samples c_shades_tint c_shades_many c_shades_rank c_shades_keys n_samples n_shades_tint n_shades_many n_shades_rank n_shades_keys f_width f_height f_samples f_shades_size f_shades_stale f_shades_tint f_shades_many f_shades_rank f_shades_keys f_offer_size f_palette_size) [(c_samples, .int), (c_shades_tint, .int), (c_shades_many, .int), (c_shades_rank, .int), (c_shades_keys, .long)] sz)) (va_Qi (fun r (u : Int32 × Int32 × (Nat → Int32) × (Nat → Int32) × (Nat → Int32) × (Nat → Int64)) => post r u.1 u.2.1 u.2.2.1 u.2.2.2.1 u.2.2.2.2.1 u.2.2.2.2.2) (gx_B (dC, dI) vwCl (va_A (wdCL_told q_this q_samples q_shades q_shades_tint q_shades_many q_shades_rank q_shades_keys q_offer q_palette r_held r_boxes r_pools r_fitting r_carry r_offer_tint r_offer_there r_palette_levels c_samples c_shades_tint c_shades_many c_shades_rank c_shades_keys n_samples n_shades_tint n_shades_many n_shades_rank n_shades_keys f_width f_height f_samples f_shades_size f_shades_stale f_shades_tint f_shades_many f_shades_rank f_shades_keys f_offer_size f_palette_size) sz) (fun (u : Int32 × Int32 × (Nat → Int32) × (Nat → Int32) × (Nat → Int32) × (Nat → Int64)) => (wdCL_told q_this q_samples q_shades q_shades_tint q_shades_many q_shades_rank q_shades_keys q_offer q_palette r_held r_boxes r_pools r_fitting r_carry r_offer_tint r_offer_there r_palette_levels c_samples c_shades_tint c_shades_many c_shades_rank c_shades_keys n_samples n_shades_tint n_shades_many n_shades_rank n_shades_keys f_width f_height f_samples u.1 u.2.1 u.2.2.1 u.2.2.2.1 u.2.2.2.2.1 u.2.2.2.2.2 f_offer_size f_palette_size))) (va_A (wdCL_told q_this q_samples q_shades q_shades_tint q_shades_many q_shades_rank q_shades_keys q_offer q_palette r_held r_boxes r_pools r_fitting r_carry r_offer_tint r_offer_there r_palette_levels c_samples c_shades_tint c_shades_many c_shades_rank c_shades_keys n_samples n_shades_tint n_shades_many n_shades_rank n_shades_keys f_width f_height f_samples f_shades_size f_shades_stale f_shades_tint f_shades_many f_shades_rank f_shades_keys f_offer_size f_palette_size) sz)) 0 0 (va_A (wdCL_told q_this q_samples q_shades q_shades_tint q_shades_many q_shades_rank q_shades_keys q_offer q_palette r_held r_boxes r_pools r_fitting r_carry r_offer_tint r_offer_there r_palette_levels c_samples c_shades_tint c_shades_many c_shades_rank c_shades_keys n_samples n_shades_tint n_shades_many n_shades_rank n_shades_keys f_width f_height f_samples f_shades_size f_shades_stale f_shades_tint f_shades_many f_shades_rank f_shades_keys f_offer_size f_palette_size) sz) := by
  refine Met.ofW (cc := bCL_told) (maxL := 2) (ret := (some .int)) (by decide) rfl ?_
  intro p e s m args below meth c s₁ B hml hv
  obtain ⟨rfl, hsz, hP, hK, hD0, hZ⟩ := hv
  have hx := B.exec
  have hb := B.bytes
  have hr := B.returns
  have hts := atoms_spec (ws := (.code yCL_told bCL_told 2 (some .int) :: BIG)) B.pre
  have hB : ∀ w ∈ BIG, w.before _ s = true := fun w h => hts w (List.mem_cons_of_mem _ h)
  have hown : s.vm.findClass RCL = some m.cls := findClass_of_methodNamed B.named
  have hlocks := B.notSynchronized
  subst hsz
  have hD := hD0.self (sz := s.heap.size)
  generalize hAe : va_A (wdCL_told q_this q_samples q_shades q_shades_tint q_shades_many q_shades_rank q_shades_keys q_offer q_palette r_held r_boxes r_pools r_fitting r_carry r_offer_tint r_offer_there r_palette_levels c_samples c_shades_tint c_shades_many c_shades_rank c_shades_keys n_samples n_shades_tint n_shades_many n_shades_rank n_shades_keys f_width f_height f_samples f_shades_size f_shades_stale f_shades_tint f_shades_many f_shades_rank f_shades_keys f_offer_size f_palette_size) s.heap.size = A at hD hZ ⊢
  have hA : ∀ q : Nat, s.heap.size ≤ q → A q := fun q h => by rw [← hAe]; exact Or.inr h
  have hS : va_S A s.heap s.heap [] := va_S.rf
  have hl := lv_entry ([.ref q_this, .int x1]) (n := 2) (Nat.le_of_ble_eq_true rfl)
  rw [lg_entry_eq]
  generalize (lg_sl ([.ref q_this, .int x1]) ++ List.replicate (2 - (lg_sl ([.ref q_this, .int x1])).length) Slot.unset).toArray = ls at hl ⊢
  have hl : lv_has ls 2 [(0, .ref q_this), (1, .int x1)] := hl
  have hL13 := (hB _ bw203)
  have hL17 := (hB _ bw204)
  have hL20 := (hB _ bw205)
  have hL32 := (hB _ bw207)
  have hL53 := (hB _ bw210)
  have hL60 := (hB _ bw211)
  have hL118 := (hB _ bw153)
  have hL144 := (hB _ bw169)
  have hL193 := (hB _ bw100)
  unfold wpCL_told at hw
  have hv := hw
  refine lv_iload_n hx hb dCL_told_0 rfl (lv_at hl 1 rfl) ?_
  rcases Classical.em (x1 = 0) with c_1 | c_1
  · have hv := hv.1 c_1
    refine lv_tableIn (tgt := 36) hx hb dCL_told_1 (by rw [c_1]; decide) (by rw [c_1]; decide) (by rw [c_1]; rfl) (by decide) ?_
    refine lv_aload_n hx hb dCL_told_36 rfl (lv_at hl 0 rfl) ?_
    refine va_get (D := (dC, dI)) (ci := 7) (v := .int f_width) (C := RCL) (T := TCL) (N := 11) hx hb hB hiCL hown hK hP 0 rfl rfl 0 (by decide) hL13 (fun _ h9 => h9) rfl dCL_told_37 ?_
    exact W.iret (v := f_width) hx hb hr (fun t ht hW => ⟨⟨_, (f_shades_size, f_shades_stale, f_shades_tint, f_shades_many, f_shades_rank, f_shades_keys), rfl, hv, by rw [ht]; exact hP, hD⟩, hS.F ht⟩) hS.2.2 dCL_told_40
  have hv := hv.2 c_1
  have nc_1 : x1.toInt ≠ 0 := fun e => c_1 (Int32.toInt_inj.mp e)
  rcases Classical.em (x1 = 1) with c_2 | c_2
  · have hv := hv.1 c_2
    refine lv_tableIn (tgt := 41) hx hb dCL_told_1 (by rw [c_2]; decide) (by rw [c_2]; decide) (by rw [c_2]; rfl) (by decide) ?_
    refine lv_aload_n hx hb dCL_told_41 rfl (lv_at hl 0 rfl) ?_
    refine va_get (D := (dC, dI)) (ci := 7) (v := .int f_height) (C := RCL) (T := TCL) (N := 11) hx hb hB hiCL hown hK hP 0 rfl rfl 1 (by decide) hL17 (fun _ h9 => h9) rfl dCL_told_42 ?_
    exact W.iret (v := f_height) hx hb hr (fun t ht hW => ⟨⟨_, (f_shades_size, f_shades_stale, f_shades_tint, f_shades_many, f_shades_rank, f_shades_keys), rfl, hv, by rw [ht]; exact hP, hD⟩, hS.F ht⟩) hS.2.2 dCL_told_45
  have hv := hv.2 c_2
  have nc_2 : x1.toInt ≠ 1 := fun e => c_2 (Int32.toInt_inj.mp e)
  rcases Classical.em (x1 = 2) with c_3 | c_3
  · have hv := hv.1 c_3
    refine lv_tableIn (tgt := 46) hx hb dCL_told_1 (by rw [c_3]; decide) (by rw [c_3]; decide) (by rw [c_3]; rfl) (by decide) ?_
    refine lv_aload_n hx hb dCL_told_46 rfl (lv_at hl 0 rfl) ?_
    refine va_get (D := (dC, dI)) (ci := 7) (v := .ref q_shades) (C := RCL) (T := TCL) (N := 11) hx hb hB hiCL hown hK hP 0 rfl rfl 4 (by decide) hL32 (fun _ h9 => h9) rfl dCL_told_47 ?_
    refine lv_aload_n hx hb dCL_told_50 rfl (lv_at hl 0 rfl) ?_
    refine va_get (D := (dC, dI)) (ci := 7) (v := .ref q_samples) (C := RCL) (T := TCL) (N := 11) hx hb hB hiCL hown hK hP 0 rfl rfl 2 (by decide) hL20 (fun _ h9 => h9) rfl dCL_told_51 ?_
    have hFc := va_free (wc := (wdSh_gather q_shades q_shades_tint q_shades_many q_shades_rank q_shades_keys q_samples c_shades_tint c_shades_many c_shades_rank c_shades_keys c_samples n_shades_tint n_shades_many n_shades_rank n_shades_keys n_samples f_shades_size f_shades_stale f_shades_tint f_shades_many f_shades_rank f_shades_keys f_samples)) hD hS hA [2, 3, 4, 5, 6, 1] rfl
    refine gx_v (wr := [(q_this, .inr (7, [.int f_width, .int f_height, .ref q_samples, .ref r_held, .ref q_shades, .ref r_boxes, .ref r_pools, .ref q_offer, .ref q_palette, .ref r_fitting, .ref r_carry])), (q_offer, .inr (3, [.ref r_offer_tint, .ref r_offer_there, .int f_offer_size])), (q_palette, .inr (4, [.ref r_palette_levels, .int f_palette_size]))]) (va_runV (As := [.ref q_samples]) (rest := []) ⟨hx, hb, hml, hown, hB⟩ (metSh_gather l dC dI q_shades q_shades_tint q_shades_many q_shades_rank q_shades_keys q_samples c_shades_tint c_shades_many c_shades_rank c_shades_keys c_samples n_shades_tint n_shades_many n_shades_rank n_shades_keys n_samples s.heap.size f_shades_size f_shades_stale f_shades_tint f_shades_many f_shades_rank f_shades_keys f_samples hv) (cwV 1 hB (gx_gV bw229 bw230 bw231 bw46 bw232) rfl rfl rfl (by decide +kernel) ⟨(Nat.le_of_ble_eq_true rfl), (Nat.le_of_ble_eq_true rfl)⟩) (gx_preV (ci := 6) (hP.sub (ws' := (wdSh_gather q_shades q_shades_tint q_shades_many q_shades_rank q_shades_keys q_samples c_shades_tint c_shades_many c_shades_rank c_shades_keys c_samples n_shades_tint n_shades_many n_shades_rank n_shades_keys n_samples f_shades_size f_shades_stale f_shades_tint f_shades_many f_shades_rank f_shades_keys f_samples)) [2, 3, 4, 5, 6, 1] rfl) (hK.sub (tys' := [(c_shades_tint, .int), (c_shades_many, .int), (c_shades_rank, .int), (c_shades_keys, .long), (c_samples, .int)]) [1, 2, 3, 4, 0] rfl) (hD.sub (ws' := (wdSh_gather q_shades q_shades_tint q_shades_many q_shades_rank q_shades_keys q_samples c_shades_tint c_shades_many c_shades_rank c_shades_keys c_samples n_shades_tint n_shades_many n_shades_rank n_shades_keys n_samples f_shades_size f_shades_stale f_shades_tint f_shades_many f_shades_rank f_shades_keys f_samples)) [2, 3, 4, 5, 6, 1] (by decide) rfl) hZ hS hFc rfl rfl) rfl rfl hl.1 rfl (lv_room (Nat.le_of_ble_eq_true rfl)) dCL_told_54 ⟨(Nat.le_of_ble_eq_true rfl), (Nat.le_of_ble_eq_true rfl)⟩) hP hD hS hFc [2, 3, 4, 5, 6, 1] [0, 7, 8] rfl rfl (by decide) (by decide) (fun u_10 H locs hv hP hD hS => ?_)
    obtain ⟨f_shades_size_4, f_shades_stale_5, f_shades_tint_6, f_shades_many_7, f_shades_rank_8, f_shades_keys_9⟩ := u_10
    have hP : va_P (dC, dI) vwCl (wdCL_told q_this q_samples q_shades q_shades_tint q_shades_many q_shades_rank q_shades_keys q_offer q_palette r_held r_boxes r_pools r_fitting r_carry r_offer_tint r_offer_there r_palette_levels c_samples c_shades_tint c_shades_many c_shades_rank c_shades_keys n_samples n_shades_tint n_shades_many n_shades_rank n_shades_keys f_width f_height f_samples f_shades_size_4 f_shades_stale_5 f_shades_tint_6 f_shades_many_7 f_shades_rank_8 f_shades_keys_9 f_offer_size f_palette_size) H := hP.sub [0, 8, 3, 4, 5, 6, 7, 1, 2] rfl
    have hD : va_D A (wdCL_told q_this q_samples q_shades q_shades_tint q_shades_many q_shades_rank q_shades_keys q_offer q_palette r_held r_boxes r_pools r_fitting r_carry r_offer_tint r_offer_there r_palette_levels c_samples c_shades_tint c_shades_many c_shades_rank c_shades_keys n_samples n_shades_tint n_shades_many n_shades_rank n_shades_keys f_width f_height f_samples f_shades_size_4 f_shades_stale_5 f_shades_tint_6 f_shades_many_7 f_shades_rank_8 f_shades_keys_9 f_offer_size f_palette_size) := hD.sub [0, 8, 3, 4, 5, 6, 7, 1, 2] (by decide) rfl
    refine lv_aload_n hx hb dCL_told_57 rfl (lv_at hl 0 rfl) ?_
    refine va_get (D := (dC, dI)) (ci := 7) (v := .ref q_shades) (C := RCL) (T := TCL) (N := 11) hx hb hB hiCL hown hK hP 0 rfl rfl 4 (by decide) hL32 (fun _ h9 => h9) rfl dCL_told_58 ?_
    refine va_get (D := (dC, dI)) (ci := 6) (v := .int f_shades_size_4) (C := RSh) (T := TSh) (N := 6) hx hb hB hiSh hown hK hP 2 rfl rfl 4 (by decide) hL193 (fun _ h9 => h9) rfl dCL_told_61 ?_
    exact W.iret (v := f_shades_size_4) hx hb hr (fun t ht hW => ⟨⟨_, (f_shades_size_4, f_shades_stale_5, f_shades_tint_6, f_shades_many_7, f_shades_rank_8, f_shades_keys_9), rfl, hv, by rw [ht]; exact hP, hD⟩, hS.F ht⟩) hS.2.2 dCL_told_64
  have hv := hv.2 c_3
  have nc_3 : x1.toInt ≠ 2 := fun e => c_3 (Int32.toInt_inj.mp e)
  rcases Classical.em (x1 = 3) with c_11 | c_11
  · have hv := hv.1 c_11
    refine lv_tableIn (tgt := 65) hx hb dCL_told_1 (by rw [c_11]; decide) (by rw [c_11]; decide) (by rw [c_11]; rfl) (by decide) ?_
    refine lv_aload_n hx hb dCL_told_65 rfl (lv_at hl 0 rfl) ?_
    refine va_get (D := (dC, dI)) (ci := 7) (v := .ref q_palette) (C := RCL) (T := TCL) (N := 11) hx hb hB hiCL hown hK hP 0 rfl rfl 8 (by decide) hL60 (fun _ h9 => h9) rfl dCL_told_66 ?_
    refine va_get (D := (dC, dI)) (ci := 4) (v := .int f_palette_size) (C := RPa) (T := TPa) (N := 2) hx hb hB hiPa hown hK hP 8 rfl rfl 1 (by decide) hL144 (fun _ h9 => h9) rfl dCL_told_69 ?_
    exact W.iret (v := f_palette_size) hx hb hr (fun t ht hW => ⟨⟨_, (f_shades_size, f_shades_stale, f_shades_tint, f_shades_many, f_shades_rank, f_shades_keys), rfl, hv, by rw [ht]; exact hP, hD⟩, hS.F ht⟩) hS.2.2 dCL_told_72
  have hv := hv.2 c_11
  have nc_11 : x1.toInt ≠ 3 := fun e => c_11 (Int32.toInt_inj.mp e)
  rcases Classical.em (x1 = 4) with c_12 | c_12
  · have hv := hv.1 c_12
    refine lv_tableIn (tgt := 73) hx hb dCL_told_1 (by rw [c_12]; decide) (by rw [c_12]; decide) (by rw [c_12]; rfl) (by decide) ?_
    refine lv_aload_n hx hb dCL_told_73 rfl (lv_at hl 0 rfl) ?_
    refine va_get (D := (dC, dI)) (ci := 7) (v := .ref q_offer) (C := RCL) (T := TCL) (N := 11) hx hb hB hiCL hown hK hP 0 rfl rfl 7 (by decide) hL53 (fun _ h9 => h9) rfl dCL_told_74 ?_
    refine va_get (D := (dC, dI)) (ci := 3) (v := .int f_offer_size) (C := ROf) (T := TOf) (N := 3) hx hb hB hiOf hown hK hP 7 rfl rfl 2 (by decide) hL118 (fun _ h9 => h9) rfl dCL_told_77 ?_
    exact W.iret (v := f_offer_size) hx hb hr (fun t ht hW => ⟨⟨_, (f_shades_size, f_shades_stale, f_shades_tint, f_shades_many, f_shades_rank, f_shades_keys), rfl, hv, by rw [ht]; exact hP, hD⟩, hS.F ht⟩) hS.2.2 dCL_told_80
  have hv := hv.2 c_12
  have nc_12 : x1.toInt ≠ 4 := fun e => c_12 (Int32.toInt_inj.mp e)
  refine lv_tableOut (tgt := 81) hx hb dCL_told_1 (by omega) (by decide) ?_
  refine lv_iconst (v := (-1)) hx hb dCL_told_81 (by decide) ?_
  exact W.iret (v := (-1)) hx hb hr (fun t ht hW => ⟨⟨_, (f_shades_size, f_shades_stale, f_shades_tint, f_shades_many, f_shades_rank, f_shades_keys), rfl, hv, by rw [ht]; exact hP, hD⟩, hS.F ht⟩) hS.2.2 dCL_told_82
abbrev wdCL_clear (q_this q_samples q_shades q_offer q_offer_there q_palette r_held r_boxes r_pools r_fitting r_carry r_shades_tint r_shades_many r_shades_rank r_shades_keys r_offer_tint r_palette_levels : Nat) (c_samples c_offer_there : ClassId) (n_samples n_offer_there : Nat) (f_width : Int32) (f_height : Int32) (f_samples : Nat → Int32) (f_shades_size : Int32) (f_shades_stale : Int32) (f_offer_size : Int32) (f_offer_there : Nat → Int32) (f_palette_size : Int32) : va_W := [(q_this, .inr (7, [.int f_width, .int f_height, .ref q_samples, .ref r_held, .ref q_shades, .ref r_boxes, .ref r_pools, .ref q_offer, .ref q_palette, .ref r_fitting, .ref r_carry])), (q_samples, .inl (c_samples, n_samples, .inl f_samples)), (q_shades, .inr (6, [.ref r_shades_tint, .ref r_shades_many, .ref r_shades_rank, .ref r_shades_keys, .int f_shades_size, .int f_shades_stale])), (q_offer, .inr (3, [.ref r_offer_tint, .ref q_offer_there, .int f_offer_size])), (q_offer_there, .inl (c_offer_there, n_offer_there, .inl f_offer_there)), (q_palette, .inr (4, [.ref r_palette_levels, .int f_palette_size]))]
set_option maxHeartbeats 4000000 in
set_option maxRecDepth 100000 in
theorem metCL_clear (l : Launch) (dC : Nat → ClassId) (dI : Nat → Nat → Nat) (q_this q_samples q_shades q_offer q_offer_there q_palette r_held r_boxes r_pools r_fitting r_carry r_shades_tint r_shades_many r_shades_rank r_shades_keys r_offer_tint r_palette_levels : Nat) (c_samples c_offer_there : ClassId) (n_samples n_offer_there : Nat) (sz : Nat) (f_width : Int32) (f_height : Int32) (f_samples : Nat → Int32) (f_shades_size : Int32) (f_shades_stale : Int32) (f_offer_size : Int32) (f_offer_there : Nat → Int32) (f_palette_size : Int32) {post : (Nat → Int32) → Int32 → Int32 → (Nat → Int32) → Int32 → Prop} (hw : wpCL_clear n_samples n_offer_there f_width f_height f_samples f_shades_size f_shades_stale f_offer_size f_offer_there f_palette_size post) : Met l yCL_clear (.code yCL_clear bCL_clear 1 none :: BIG) ({ frames := 2, cells := 0, slots := 0, locals := 42 }) (va_Pc [.ref q_this] (gx_pre (dC, dI) vwCl (wdCL_clear q_this q_samples q_shades q_offer q_offer_there q_palette r_held r_boxes r_pools r_fitting r_carry r_shades_tint r_shades_many r_shades_rank r_shades_keys r_offer_tint r_palette_levels c_samples c_offer_there n_samples n_offer_there f_width f_height f_samples f_shades_size f_shades_stale f_offer_size f_offer_there f_palette_size) [(c_samples, .int), (c_offer_there, .boolean)] sz)) (va_Qv (fun (u : (Nat → Int32) × Int32 × Int32 × (Nat → Int32) × Int32) => post u.1 u.2.1 u.2.2.1 u.2.2.2.1 u.2.2.2.2) (gx_B (dC, dI) vwCl (va_A (wdCL_clear q_this q_samples q_shades q_offer q_offer_there q_palette r_held r_boxes r_pools r_fitting r_carry r_shades_tint r_shades_many r_shades_rank r_shades_keys r_offer_tint r_palette_levels c_samples c_offer_there n_samples n_offer_there f_width f_height f_samples f_shades_size f_shades_stale f_offer_size f_offer_there f_palette_size) sz) (fun (u : (Nat → Int32) × Int32 × Int32 × (Nat → Int32) × Int32) => (wdCL_clear q_this q_samples q_shades q_offer q_offer_there q_palette r_held r_boxes r_pools r_fitting r_carry r_shades_tint r_shades_many r_shades_rank r_shades_keys r_offer_tint r_palette_levels c_samples c_offer_there n_samples n_offer_there f_width f_height u.1 f_shades_size u.2.1 u.2.2.1 u.2.2.2.1 u.2.2.2.2))) (va_A (wdCL_clear q_this q_samples q_shades q_offer q_offer_there q_palette r_held r_boxes r_pools r_fitting r_carry r_shades_tint r_shades_many r_shades_rank r_shades_keys r_offer_tint r_palette_levels c_samples c_offer_there n_samples n_offer_there f_width f_height f_samples f_shades_size f_shades_stale f_offer_size f_offer_there f_palette_size) sz)) 0 0 (va_A (wdCL_clear q_this q_samples q_shades q_offer q_offer_there q_palette r_held r_boxes r_pools r_fitting r_carry r_shades_tint r_shades_many r_shades_rank r_shades_keys r_offer_tint r_palette_levels c_samples c_offer_there n_samples n_offer_there f_width f_height f_samples f_shades_size f_shades_stale f_offer_size f_offer_there f_palette_size) sz) := by
  refine Met.ofW (cc := bCL_clear) (maxL := 1) (ret := none) (by decide) rfl ?_
  intro p e s m args below meth c s₁ B hml hv
  obtain ⟨rfl, hsz, hP, hK, hD0, hZ⟩ := hv
  have hx := B.exec
  have hb := B.bytes
  have hr := B.returns
  have hts := atoms_spec (ws := (.code yCL_clear bCL_clear 1 none :: BIG)) B.pre
  have hB : ∀ w ∈ BIG, w.before _ s = true := fun w h => hts w (List.mem_cons_of_mem _ h)
  have hown : s.vm.findClass RCL = some m.cls := findClass_of_methodNamed B.named
  have hlocks := B.notSynchronized
  subst hsz
  have hD := hD0.self (sz := s.heap.size)
  generalize hAe : va_A (wdCL_clear q_this q_samples q_shades q_offer q_offer_there q_palette r_held r_boxes r_pools r_fitting r_carry r_shades_tint r_shades_many r_shades_rank r_shades_keys r_offer_tint r_palette_levels c_samples c_offer_there n_samples n_offer_there f_width f_height f_samples f_shades_size f_shades_stale f_offer_size f_offer_there f_palette_size) s.heap.size = A at hD hZ ⊢
  have hA : ∀ q : Nat, s.heap.size ≤ q → A q := fun q h => by rw [← hAe]; exact Or.inr h
  have hS : va_S A s.heap s.heap [] := va_S.rf
  have hl := lv_entry ([.ref q_this]) (n := 1) (Nat.le_of_ble_eq_true rfl)
  rw [lg_entry_eq]
  generalize (lg_sl ([.ref q_this]) ++ List.replicate (1 - (lg_sl ([.ref q_this])).length) Slot.unset).toArray = ls at hl ⊢
  have hl : lv_has ls 1 [(0, .ref q_this)] := hl
  have hL20 := (hB _ bw205)
  have hL53 := (hB _ bw210)
  unfold wpCL_clear at hw
  have hv := hw
  refine lv_aload_n hx hb dCL_clear_0 rfl (lv_at hl 0 rfl) ?_
  refine va_get (D := (dC, dI)) (ci := 7) (v := .ref q_samples) (C := RCL) (T := TCL) (N := 11) hx hb hB hiCL hown hK hP 0 rfl rfl 2 (by decide) hL20 (fun _ h9 => h9) rfl dCL_clear_1 ?_
  refine lv_iconst (v := 0) hx hb dCL_clear_4 (by decide) ?_
  have hFc := va_free (wc := (wdAr_fill q_samples c_samples n_samples f_samples)) hD hS hA [1] rfl
  refine gx_v (wr := [(q_this, .inr (7, [.int f_width, .int f_height, .ref q_samples, .ref r_held, .ref q_shades, .ref r_boxes, .ref r_pools, .ref q_offer, .ref q_palette, .ref r_fitting, .ref r_carry])), (q_shades, .inr (6, [.ref r_shades_tint, .ref r_shades_many, .ref r_shades_rank, .ref r_shades_keys, .int f_shades_size, .int f_shades_stale])), (q_offer, .inr (3, [.ref r_offer_tint, .ref q_offer_there, .int f_offer_size])), (q_offer_there, .inl (c_offer_there, n_offer_there, .inl f_offer_there)), (q_palette, .inr (4, [.ref r_palette_levels, .int f_palette_size]))]) (va_runS (As := [.ref q_samples, .int 0]) (rest := []) ⟨hx, hb, hml, hown, hB⟩ (metAr_fill l dC dI q_samples c_samples n_samples s.heap.size f_samples 0 hv) (va_cwS 2 hB (gx_gS bw247 bw248 bw59 bw249) rfl rfl rfl (by decide +kernel) ⟨(Nat.le_of_ble_eq_true rfl), (Nat.le_of_ble_eq_true rfl)⟩) (gx_preS (hP.sub (ws' := (wdAr_fill q_samples c_samples n_samples f_samples)) [1] rfl) (hK.sub (tys' := [(c_samples, .int)]) [0] rfl) (hD.sub (ws' := (wdAr_fill q_samples c_samples n_samples f_samples)) [1] (by decide) rfl) hZ hS hFc) rfl rfl hl.1 rfl (lv_room (Nat.le_of_ble_eq_true rfl)) dCL_clear_5 ⟨(Nat.le_of_ble_eq_true rfl), (Nat.le_of_ble_eq_true rfl)⟩) hP hD hS hFc [1] [0, 2, 3, 4, 5] rfl rfl (by decide) (by decide) (fun u_2 H locs hv hP hD hS => ?_)
  obtain ⟨f_samples_1, rfl⟩ : ∃ z, z = u_2 := ⟨_, rfl⟩
  have hP : va_P (dC, dI) vwCl (wdCL_clear q_this q_samples q_shades q_offer q_offer_there q_palette r_held r_boxes r_pools r_fitting r_carry r_shades_tint r_shades_many r_shades_rank r_shades_keys r_offer_tint r_palette_levels c_samples c_offer_there n_samples n_offer_there f_width f_height f_samples_1 f_shades_size f_shades_stale f_offer_size f_offer_there f_palette_size) H := hP.sub [0, 5, 1, 2, 3, 4] rfl
  have hD : va_D A (wdCL_clear q_this q_samples q_shades q_offer q_offer_there q_palette r_held r_boxes r_pools r_fitting r_carry r_shades_tint r_shades_many r_shades_rank r_shades_keys r_offer_tint r_palette_levels c_samples c_offer_there n_samples n_offer_there f_width f_height f_samples_1 f_shades_size f_shades_stale f_offer_size f_offer_there f_palette_size) := hD.sub [0, 5, 1, 2, 3, 4] (by decide) rfl
  refine lv_aload_n hx hb dCL_clear_8 rfl (lv_at hl 0 rfl) ?_
  refine va_get (D := (dC, dI)) (ci := 7) (v := .ref q_offer) (C := RCL) (T := TCL) (N := 11) hx hb hB hiCL hown hK hP 0 rfl rfl 7 (by decide) hL53 (fun _ h9 => h9) rfl dCL_clear_9 ?_
  have hFc := va_free (wc := (wdOf_withdrawAll q_offer q_offer_there r_offer_tint c_offer_there n_offer_there f_offer_size f_offer_there)) hD hS hA [3, 4] rfl
  refine gx_v (wr := [(q_this, .inr (7, [.int f_width, .int f_height, .ref q_samples, .ref r_held, .ref q_shades, .ref r_boxes, .ref r_pools, .ref q_offer, .ref q_palette, .ref r_fitting, .ref r_carry])), (q_samples, .inl (c_samples, n_samples, .inl f_samples_1)), (q_shades, .inr (6, [.ref r_shades_tint, .ref r_shades_many, .ref r_shades_rank, .ref r_shades_keys, .int f_shades_size, .int f_shades_stale])), (q_palette, .inr (4, [.ref r_palette_levels, .int f_palette_size]))]) (va_runV (As := []) (rest := []) ⟨hx, hb, hml, hown, hB⟩ (metOf_withdrawAll l dC dI q_offer q_offer_there r_offer_tint c_offer_there n_offer_there H.size f_offer_size f_offer_there hv) (cwV 0 hB (gx_gV bw250 bw251 bw252 bw49 bw253) rfl rfl rfl (by decide +kernel) ⟨(Nat.le_of_ble_eq_true rfl), (Nat.le_of_ble_eq_true rfl)⟩) (gx_preV (ci := 3) (hP.sub (ws' := (wdOf_withdrawAll q_offer q_offer_there r_offer_tint c_offer_there n_offer_there f_offer_size f_offer_there)) [3, 4] rfl) (hK.sub (tys' := [(c_offer_there, .boolean)]) [1] rfl) (hD.sub (ws' := (wdOf_withdrawAll q_offer q_offer_there r_offer_tint c_offer_there n_offer_there f_offer_size f_offer_there)) [3, 4] (by decide) rfl) hZ hS hFc rfl rfl) rfl rfl hl.1 rfl (lv_room (Nat.le_of_ble_eq_true rfl)) dCL_clear_12 ⟨(Nat.le_of_ble_eq_true rfl), (Nat.le_of_ble_eq_true rfl)⟩) hP hD hS hFc [3, 4] [0, 1, 2, 5] rfl rfl (by decide) (by decide) (fun u_5 H locs hv hP hD hS => ?_)
  obtain ⟨f_offer_size_3, f_offer_there_4⟩ := u_5
  have hP : va_P (dC, dI) vwCl (wdCL_clear q_this q_samples q_shades q_offer q_offer_there q_palette r_held r_boxes r_pools r_fitting r_carry r_shades_tint r_shades_many r_shades_rank r_shades_keys r_offer_tint r_palette_levels c_samples c_offer_there n_samples n_offer_there f_width f_height f_samples_1 f_shades_size f_shades_stale f_offer_size_3 f_offer_there_4 f_palette_size) H := hP.sub [0, 1, 2, 4, 5, 3] rfl
  have hD : va_D A (wdCL_clear q_this q_samples q_shades q_offer q_offer_there q_palette r_held r_boxes r_pools r_fitting r_carry r_shades_tint r_shades_many r_shades_rank r_shades_keys r_offer_tint r_palette_levels c_samples c_offer_there n_samples n_offer_there f_width f_height f_samples_1 f_shades_size f_shades_stale f_offer_size_3 f_offer_there_4 f_palette_size) := hD.sub [0, 1, 2, 4, 5, 3] (by decide) rfl
  refine lv_aload_n hx hb dCL_clear_15 rfl (lv_at hl 0 rfl) ?_
  have hFc := va_free (wc := (wdCL_forgetMade q_this q_shades q_palette q_samples r_held r_boxes r_pools q_offer r_fitting r_carry r_shades_tint r_shades_many r_shades_rank r_shades_keys r_palette_levels f_width f_height f_shades_size f_shades_stale f_palette_size)) hD hS hA [0, 2, 5] rfl
  refine gx_v (wr := [(q_samples, .inl (c_samples, n_samples, .inl f_samples_1)), (q_offer, .inr (3, [.ref r_offer_tint, .ref q_offer_there, .int f_offer_size_3])), (q_offer_there, .inl (c_offer_there, n_offer_there, .inl f_offer_there_4))]) (va_runV (As := []) (rest := []) ⟨hx, hb, hml, hown, hB⟩ (metCL_forgetMade l dC dI q_this q_shades q_palette q_samples r_held r_boxes r_pools q_offer r_fitting r_carry r_shades_tint r_shades_many r_shades_rank r_shades_keys r_palette_levels H.size f_width f_height f_shades_size f_shades_stale f_palette_size hv) (cwV 0 hB (gx_gV bw258 bw259 bw1 bw44 bw260) rfl rfl rfl (by decide +kernel) ⟨(Nat.le_of_ble_eq_true rfl), (Nat.le_of_ble_eq_true rfl)⟩) (gx_preV (ci := 7) (hP.sub (ws' := (wdCL_forgetMade q_this q_shades q_palette q_samples r_held r_boxes r_pools q_offer r_fitting r_carry r_shades_tint r_shades_many r_shades_rank r_shades_keys r_palette_levels f_width f_height f_shades_size f_shades_stale f_palette_size)) [0, 2, 5] rfl) (hK.sub (tys' := []) [] rfl) (hD.sub (ws' := (wdCL_forgetMade q_this q_shades q_palette q_samples r_held r_boxes r_pools q_offer r_fitting r_carry r_shades_tint r_shades_many r_shades_rank r_shades_keys r_palette_levels f_width f_height f_shades_size f_shades_stale f_palette_size)) [0, 2, 5] (by decide) rfl) hZ hS hFc rfl rfl) rfl rfl hl.1 rfl (lv_room (Nat.le_of_ble_eq_true rfl)) dCL_clear_16 ⟨(Nat.le_of_ble_eq_true rfl), (Nat.le_of_ble_eq_true rfl)⟩) hP hD hS hFc [0, 2, 5] [1, 3, 4] rfl rfl (by decide) (by decide) (fun u_8 H locs hv hP hD hS => ?_)
  obtain ⟨f_shades_stale_6, f_palette_size_7⟩ := u_8
  have hP : va_P (dC, dI) vwCl (wdCL_clear q_this q_samples q_shades q_offer q_offer_there q_palette r_held r_boxes r_pools r_fitting r_carry r_shades_tint r_shades_many r_shades_rank r_shades_keys r_offer_tint r_palette_levels c_samples c_offer_there n_samples n_offer_there f_width f_height f_samples_1 f_shades_size f_shades_stale_6 f_offer_size_3 f_offer_there_4 f_palette_size_7) H := hP.sub [3, 0, 4, 1, 2, 5] rfl
  have hD : va_D A (wdCL_clear q_this q_samples q_shades q_offer q_offer_there q_palette r_held r_boxes r_pools r_fitting r_carry r_shades_tint r_shades_many r_shades_rank r_shades_keys r_offer_tint r_palette_levels c_samples c_offer_there n_samples n_offer_there f_width f_height f_samples_1 f_shades_size f_shades_stale_6 f_offer_size_3 f_offer_there_4 f_palette_size_7) := hD.sub [3, 0, 4, 1, 2, 5] (by decide) rfl
  exact W.vret hx hb hr (fun t ht hW => ⟨⟨(f_samples_1, f_shades_stale_6, f_offer_size_3, f_offer_there_4, f_palette_size_7), rfl, hv, by rw [ht]; exact hP, hD⟩, hS.F ht⟩) hS.2.2 dCL_clear_19
abbrev wdMd_thrown (q_this r_samples r_isGiven r_gives r_colours r_many r_group r_row r_channelOf r_spreads r_boxMany r_there r_groupMany r_means r_sums r_palette r_has r_takers r_takenSums r_order r_before r_roundSums r_carried : Nat) (f_thrown : Int32) (f_width : Int32) (f_height : Int32) (f_different : Int32) (f_groups : Int32) (f_rowSize : Int32) (f_ready : Int32) (f_size : Int32) (f_rounds : Int32) : va_W := [(q_this, .inr (8, [.int f_thrown, .int f_width, .int f_height, .ref r_samples, .ref r_isGiven, .ref r_gives, .int f_different, .ref r_colours, .ref r_many, .ref r_group, .int f_groups, .ref r_row, .int f_rowSize, .ref r_channelOf, .ref r_spreads, .ref r_boxMany, .ref r_there, .ref r_groupMany, .ref r_means, .ref r_sums, .int f_ready, .int f_size, .ref r_palette, .ref r_has, .ref r_takers, .ref r_takenSums, .ref r_order, .ref r_before, .int f_rounds, .ref r_roundSums, .ref r_carried]))]
set_option maxHeartbeats 4000000 in
set_option maxRecDepth 100000 in
theorem metMd_thrown (l : Launch) (dC : Nat → ClassId) (dI : Nat → Nat → Nat) (q_this r_samples r_isGiven r_gives r_colours r_many r_group r_row r_channelOf r_spreads r_boxMany r_there r_groupMany r_means r_sums r_palette r_has r_takers r_takenSums r_order r_before r_roundSums r_carried : Nat) (sz : Nat) (f_thrown : Int32) (f_width : Int32) (f_height : Int32) (f_different : Int32) (f_groups : Int32) (f_rowSize : Int32) (f_ready : Int32) (f_size : Int32) (f_rounds : Int32) {post : Int32 → Prop} (hw : wpMd_thrown f_thrown f_width f_height f_different f_groups f_rowSize f_ready f_size f_rounds post) : Met l yMd_thrown (.code yMd_thrown bMd_thrown 1 (some .int) :: BIG) ({ frames := 0, cells := 0, slots := 0, locals := 0 }) (va_Pc [.ref q_this] (gx_rpre (dC, dI) vwCl (wdMd_thrown q_this r_samples r_isGiven r_gives r_colours r_many r_group r_row r_channelOf r_spreads r_boxMany r_there r_groupMany r_means r_sums r_palette r_has r_takers r_takenSums r_order r_before r_roundSums r_carried f_thrown f_width f_height f_different f_groups f_rowSize f_ready f_size f_rounds) [] sz)) (va_Qi (fun r (u : Unit) => post r ) (fun _ _ => True) (fun q : Nat => sz ≤ q)) 0 0 (fun q : Nat => sz ≤ q) := by
  refine Met.ofW (cc := bMd_thrown) (maxL := 1) (ret := (some .int)) (by decide) rfl ?_
  intro p e s m args below meth c s₁ B hml hv
  obtain ⟨rfl, hsz, hP, hK, hZ⟩ := hv
  have hx := B.exec
  have hb := B.bytes
  have hr := B.returns
  have hts := atoms_spec (ws := (.code yMd_thrown bMd_thrown 1 (some .int) :: BIG)) B.pre
  have hB : ∀ w ∈ BIG, w.before _ s = true := fun w h => hts w (List.mem_cons_of_mem _ h)
  have hown : s.vm.findClass RMd = some m.cls := findClass_of_methodNamed B.named
  have hlocks := B.notSynchronized
  subst hsz
  have hA : ∀ q : Nat, s.heap.size ≤ q → (fun q : Nat => s.heap.size ≤ q) q := fun _ h => h
  have hS : va_S (fun q : Nat => s.heap.size ≤ q) s.heap s.heap [] := va_S.rf
  have hl := lv_entry ([.ref q_this]) (n := 1) (Nat.le_of_ble_eq_true rfl)
  rw [lg_entry_eq]
  generalize (lg_sl ([.ref q_this]) ++ List.replicate (1 - (lg_sl ([.ref q_this])).length) Slot.unset).toArray = ls at hl ⊢
  have hl : lv_has ls 1 [(0, .ref q_this)] := hl
  have hL85 := (hB _ bw615)
  unfold wpMd_thrown at hw
  have hv := hw
  refine lv_aload_n hx hb dMd_thrown_0 rfl (lv_at hl 0 rfl) ?_
  refine va_get (D := (dC, dI)) (ci := 8) (v := .int f_thrown) (C := RMd) (T := TMd) (N := 31) hx hb hB hiMd hown hK hP 0 rfl rfl 0 (by decide) hL85 (fun _ h9 => h9) rfl dMd_thrown_1 ?_
  exact W.iret (v := f_thrown) hx hb hr (fun t ht hW => ⟨⟨_, (), rfl, hv, trivial⟩, hS.F ht⟩) hS.2.2 dMd_thrown_4
abbrev wdMd_isPlace (q_this r_samples r_isGiven r_gives r_colours r_many r_group r_row r_channelOf r_spreads r_boxMany r_there r_groupMany r_means r_sums r_palette r_has r_takers r_takenSums r_order r_before r_roundSums r_carried : Nat) (f_thrown : Int32) (f_width : Int32) (f_height : Int32) (f_different : Int32) (f_groups : Int32) (f_rowSize : Int32) (f_ready : Int32) (f_size : Int32) (f_rounds : Int32) : va_W := [(q_this, .inr (8, [.int f_thrown, .int f_width, .int f_height, .ref r_samples, .ref r_isGiven, .ref r_gives, .int f_different, .ref r_colours, .ref r_many, .ref r_group, .int f_groups, .ref r_row, .int f_rowSize, .ref r_channelOf, .ref r_spreads, .ref r_boxMany, .ref r_there, .ref r_groupMany, .ref r_means, .ref r_sums, .int f_ready, .int f_size, .ref r_palette, .ref r_has, .ref r_takers, .ref r_takenSums, .ref r_order, .ref r_before, .int f_rounds, .ref r_roundSums, .ref r_carried]))]
set_option maxHeartbeats 4000000 in
set_option maxRecDepth 100000 in
theorem metMd_isPlace (l : Launch) (dC : Nat → ClassId) (dI : Nat → Nat → Nat) (q_this r_samples r_isGiven r_gives r_colours r_many r_group r_row r_channelOf r_spreads r_boxMany r_there r_groupMany r_means r_sums r_palette r_has r_takers r_takenSums r_order r_before r_roundSums r_carried : Nat) (sz : Nat) (f_thrown : Int32) (f_width : Int32) (f_height : Int32) (f_different : Int32) (f_groups : Int32) (f_rowSize : Int32) (f_ready : Int32) (f_size : Int32) (f_rounds : Int32) (x1 : Int32) (x2 : Int32) {post : Int32 → Prop} (hw : wpMd_isPlace f_thrown f_width f_height f_different f_groups f_rowSize f_ready f_size f_rounds x1 x2 post) : Met l yMd_isPlace (.code yMd_isPlace bMd_isPlace 3 (some .boolean) :: BIG) ({ frames := 0, cells := 0, slots := 0, locals := 0 }) (va_Pc [.ref q_this, .int x1, .int x2] (gx_rpre (dC, dI) vwCl (wdMd_isPlace q_this r_samples r_isGiven r_gives r_colours r_many r_group r_row r_channelOf r_spreads r_boxMany r_there r_groupMany r_means r_sums r_palette r_has r_takers r_takenSums r_order r_before r_roundSums r_carried f_thrown f_width f_height f_different f_groups f_rowSize f_ready f_size f_rounds) [] sz)) (va_Qi (fun r (u : Unit) => post r ) (fun _ _ => True) (fun q : Nat => sz ≤ q)) 0 0 (fun q : Nat => sz ≤ q) := by
  refine Met.ofW (cc := bMd_isPlace) (maxL := 3) (ret := (some .boolean)) (by decide) rfl ?_
  intro p e s m args below meth c s₁ B hml hv
  obtain ⟨rfl, hsz, hP, hK, hZ⟩ := hv
  have hx := B.exec
  have hb := B.bytes
  have hr := B.returns
  have hts := atoms_spec (ws := (.code yMd_isPlace bMd_isPlace 3 (some .boolean) :: BIG)) B.pre
  have hB : ∀ w ∈ BIG, w.before _ s = true := fun w h => hts w (List.mem_cons_of_mem _ h)
  have hown : s.vm.findClass RMd = some m.cls := findClass_of_methodNamed B.named
  have hlocks := B.notSynchronized
  subst hsz
  have hA : ∀ q : Nat, s.heap.size ≤ q → (fun q : Nat => s.heap.size ≤ q) q := fun _ h => h
  have hS : va_S (fun q : Nat => s.heap.size ≤ q) s.heap s.heap [] := va_S.rf
  have hl := lv_entry ([.ref q_this, .int x1, .int x2]) (n := 3) (Nat.le_of_ble_eq_true rfl)
  rw [lg_entry_eq]
  generalize (lg_sl ([.ref q_this, .int x1, .int x2]) ++ List.replicate (3 - (lg_sl ([.ref q_this, .int x1, .int x2])).length) Slot.unset).toArray = ls at hl ⊢
  have hl : lv_has ls 3 [(0, .ref q_this), (1, .int x1), (2, .int x2)] := hl
  have hL78 := (hB _ bw616)
  have hL82 := (hB _ bw617)
  refine gx_abs (fun G eG => ?_)
  have j29 : ∀ (s0 : Int32), vcMd_isPlace_29 f_thrown f_width f_height f_different f_groups f_rowSize f_ready f_size f_rounds x1 x2 post s0 → ∀ (H : Heap) (locs : List Loc) (ls : Array Slot), va_P (dC, dI) vwCl (wdMd_isPlace q_this r_samples r_isGiven r_gives r_colours r_many r_group r_row r_channelOf r_spreads r_boxMany r_there r_groupMany r_means r_sums r_palette r_has r_takers r_takenSums r_order r_before r_roundSums r_carried f_thrown f_width f_height f_different f_groups f_rowSize f_ready f_size f_rounds) H → va_S (fun q : Nat => s.heap.size ≤ q) s.heap H locs → lv_has ls 3 [] → G H locs 0 0 (F0 m 29 ls [.int s0]) := by
    intro s0 hv H locs ls hP hS hl
    rw [eG]
    unfold vcMd_isPlace_29 at hv
    obtain ⟨h_1, hv⟩ := hv
    exact W.zret (v := s0) hx hb hr h_1 (fun t ht hW => ⟨⟨_, (), rfl, hv, trivial⟩, hS.F ht⟩) hS.2.2 dMd_isPlace_29
  rw [eG] at j29
  have j28 : vcMd_isPlace_28 f_thrown f_width f_height f_different f_groups f_rowSize f_ready f_size f_rounds x1 x2 post → ∀ (H : Heap) (locs : List Loc) (ls : Array Slot), va_P (dC, dI) vwCl (wdMd_isPlace q_this r_samples r_isGiven r_gives r_colours r_many r_group r_row r_channelOf r_spreads r_boxMany r_there r_groupMany r_means r_sums r_palette r_has r_takers r_takenSums r_order r_before r_roundSums r_carried f_thrown f_width f_height f_different f_groups f_rowSize f_ready f_size f_rounds) H → va_S (fun q : Nat => s.heap.size ≤ q) s.heap H locs → lv_has ls 3 [] → G H locs 0 0 (F0 m 28 ls []) := by
    intro  hv H locs ls hP hS hl
    rw [eG]
    unfold vcMd_isPlace_28 at hv
    refine lv_iconst (v := 0) hx hb dMd_isPlace_28 (by decide) ?_
    exact j29 0 hv _ _ _ hP hS (lv_sub hl [] rfl)
  rw [eG] at j28
  unfold wpMd_isPlace at hw
  have hv := hw
  rw [eG]
  refine lv_iload_n hx hb dMd_isPlace_0 rfl (lv_at hl 1 rfl) ?_
  refine lv_if_lt (tgt := 28) hx hb dMd_isPlace_1 (by decide) (fun c_2 => ?_) (fun c_2 => ?_)
  · have hv := hv.1 c_2
    exact j28  hv _ _ _ hP hS (lv_sub hl [] rfl)
  · have hv := hv.2 c_2
    refine lv_iload_n hx hb dMd_isPlace_4 rfl (lv_at hl 1 rfl) ?_
    refine lv_aload_n hx hb dMd_isPlace_5 rfl (lv_at hl 0 rfl) ?_
    refine va_get (D := (dC, dI)) (ci := 8) (v := .int f_width) (C := RMd) (T := TMd) (N := 31) hx hb hB hiMd hown hK hP 0 rfl rfl 1 (by decide) hL78 (fun _ h9 => h9) rfl dMd_isPlace_6 ?_
    refine lv_icmp_ge (tgt := 28) hx hb dMd_isPlace_9 (by decide) (fun c_3 => ?_) (fun c_3 => ?_)
    · have hv := hv.1 c_3
      exact j28  hv _ _ _ hP hS (lv_sub hl [] rfl)
    · have hv := hv.2 c_3
      refine lv_iload_n hx hb dMd_isPlace_12 rfl (lv_at hl 2 rfl) ?_
      refine lv_if_lt (tgt := 28) hx hb dMd_isPlace_13 (by decide) (fun c_4 => ?_) (fun c_4 => ?_)
      · have hv := hv.1 c_4
        exact j28  hv _ _ _ hP hS (lv_sub hl [] rfl)
      · have hv := hv.2 c_4
        refine lv_iload_n hx hb dMd_isPlace_16 rfl (lv_at hl 2 rfl) ?_
        refine lv_aload_n hx hb dMd_isPlace_17 rfl (lv_at hl 0 rfl) ?_
        refine va_get (D := (dC, dI)) (ci := 8) (v := .int f_height) (C := RMd) (T := TMd) (N := 31) hx hb hB hiMd hown hK hP 0 rfl rfl 2 (by decide) hL82 (fun _ h9 => h9) rfl dMd_isPlace_18 ?_
        refine lv_icmp_ge (tgt := 28) hx hb dMd_isPlace_21 (by decide) (fun c_5 => ?_) (fun c_5 => ?_)
        · have hv := hv.1 c_5
          exact j28  hv _ _ _ hP hS (lv_sub hl [] rfl)
        · have hv := hv.2 c_5
          refine lv_iconst (v := 1) hx hb dMd_isPlace_24 (by decide) ?_
          refine lv_goto (tgt := 29) hx hb dMd_isPlace_25 (by decide) ?_
          exact j29 1 hv _ _ _ hP hS (lv_sub hl [] rfl)
abbrev wdMd_isChannel  : va_W := []
set_option maxHeartbeats 4000000 in
set_option maxRecDepth 100000 in
theorem metMd_isChannel (l : Launch) (dC : Nat → ClassId) (dI : Nat → Nat → Nat) (sz : Nat) (x0 : Int32) {post : Int32 → Prop} (hw : wpMd_isChannel x0 post) : Met l yMd_isChannel (.code yMd_isChannel bMd_isChannel 1 (some .boolean) :: BIG) ({ frames := 0, cells := 0, slots := 0, locals := 0 }) (va_Pc [.int x0] (gx_rpre (dC, dI) vwCl wdMd_isChannel [] sz)) (va_Qi (fun r (u : Unit) => post r ) (fun _ _ => True) (fun q : Nat => sz ≤ q)) 0 0 (fun q : Nat => sz ≤ q) := by
  refine Met.ofW (cc := bMd_isChannel) (maxL := 1) (ret := (some .boolean)) (by decide) rfl ?_
  intro p e s m args below meth c s₁ B hml hv
  obtain ⟨rfl, hsz, hP, hK, hZ⟩ := hv
  have hx := B.exec
  have hb := B.bytes
  have hr := B.returns
  have hts := atoms_spec (ws := (.code yMd_isChannel bMd_isChannel 1 (some .boolean) :: BIG)) B.pre
  have hB : ∀ w ∈ BIG, w.before _ s = true := fun w h => hts w (List.mem_cons_of_mem _ h)
  have hown : s.vm.findClass RMd = some m.cls := findClass_of_methodNamed B.named
  have hlocks := B.notSynchronized
  subst hsz
  have hA : ∀ q : Nat, s.heap.size ≤ q → (fun q : Nat => s.heap.size ≤ q) q := fun _ h => h
  have hS : va_S (fun q : Nat => s.heap.size ≤ q) s.heap s.heap [] := va_S.rf
  have hl := lv_entry ([.int x0]) (n := 1) (Nat.le_of_ble_eq_true rfl)
  rw [lg_entry_eq]
  generalize (lg_sl ([.int x0]) ++ List.replicate (1 - (lg_sl ([.int x0])).length) Slot.unset).toArray = ls at hl ⊢
  have hl : lv_has ls 1 [(0, .int x0)] := hl
  refine gx_abs (fun G eG => ?_)
  have j16 : ∀ (s0 : Int32), vcMd_isChannel_16 x0 post s0 → ∀ (H : Heap) (locs : List Loc) (ls : Array Slot), va_P (dC, dI) vwCl wdMd_isChannel H → va_S (fun q : Nat => s.heap.size ≤ q) s.heap H locs → lv_has ls 1 [] → G H locs 0 0 (F0 m 16 ls [.int s0]) := by
    intro s0 hv H locs ls hP hS hl
    rw [eG]
    unfold vcMd_isChannel_16 at hv
    obtain ⟨h_1, hv⟩ := hv
    exact W.zret (v := s0) hx hb hr h_1 (fun t ht hW => ⟨⟨_, (), rfl, hv, trivial⟩, hS.F ht⟩) hS.2.2 dMd_isChannel_16
  rw [eG] at j16
  have j15 : vcMd_isChannel_15 x0 post → ∀ (H : Heap) (locs : List Loc) (ls : Array Slot), va_P (dC, dI) vwCl wdMd_isChannel H → va_S (fun q : Nat => s.heap.size ≤ q) s.heap H locs → lv_has ls 1 [] → G H locs 0 0 (F0 m 15 ls []) := by
    intro  hv H locs ls hP hS hl
    rw [eG]
    unfold vcMd_isChannel_15 at hv
    refine lv_iconst (v := 0) hx hb dMd_isChannel_15 (by decide) ?_
    exact j16 0 hv _ _ _ hP hS (lv_sub hl [] rfl)
  rw [eG] at j15
  unfold wpMd_isChannel at hw
  have hv := hw
  rw [eG]
  refine lv_iload_n hx hb dMd_isChannel_0 rfl (lv_at hl 0 rfl) ?_
  refine lv_if_lt (tgt := 15) hx hb dMd_isChannel_1 (by decide) (fun c_2 => ?_) (fun c_2 => ?_)
  · have hv := hv.1 c_2
    exact j15  hv _ _ _ hP hS (lv_sub hl [] rfl)
  · have hv := hv.2 c_2
    refine lv_iload_n hx hb dMd_isChannel_4 rfl (lv_at hl 0 rfl) ?_
    refine lv_sipush (v := 255) hx hb dMd_isChannel_5 (by decide) ?_
    refine lv_icmp_gt (tgt := 15) hx hb dMd_isChannel_8 (by decide) (fun c_3 => ?_) (fun c_3 => ?_)
    · have hv := hv.1 c_3
      exact j15  hv _ _ _ hP hS (lv_sub hl [] rfl)
    · have hv := hv.2 c_3
      refine lv_iconst (v := 1) hx hb dMd_isChannel_11 (by decide) ?_
      refine lv_goto (tgt := 16) hx hb dMd_isChannel_12 (by decide) ?_
      exact j16 1 hv _ _ _ hP hS (lv_sub hl [] rfl)
abbrev wdMd_areChannels  : va_W := []
set_option maxHeartbeats 4000000 in
set_option maxRecDepth 100000 in
theorem metMd_areChannels (l : Launch) (dC : Nat → ClassId) (dI : Nat → Nat → Nat) (sz : Nat) (x0 : Int32) (x1 : Int32) (x2 : Int32) (x3 : Int32) {post : Int32 → Prop} (hw : wpMd_areChannels x0 x1 x2 x3 post) : Met l yMd_areChannels (.code yMd_areChannels bMd_areChannels 4 (some .boolean) :: BIG) ({ frames := 1, cells := 0, slots := 0, locals := 20 }) (va_Pc [.int x0, .int x1, .int x2, .int x3] (gx_rpre (dC, dI) vwCl wdMd_areChannels [] sz)) (va_Qi (fun r (u : Unit) => post r ) (fun _ _ => True) (fun q : Nat => sz ≤ q)) 0 0 (fun q : Nat => sz ≤ q) := by
  refine Met.ofW (cc := bMd_areChannels) (maxL := 4) (ret := (some .boolean)) (by decide) rfl ?_
  intro p e s m args below meth c s₁ B hml hv
  obtain ⟨rfl, hsz, hP, hK, hZ⟩ := hv
  have hx := B.exec
  have hb := B.bytes
  have hr := B.returns
  have hts := atoms_spec (ws := (.code yMd_areChannels bMd_areChannels 4 (some .boolean) :: BIG)) B.pre
  have hB : ∀ w ∈ BIG, w.before _ s = true := fun w h => hts w (List.mem_cons_of_mem _ h)
  have hown : s.vm.findClass RMd = some m.cls := findClass_of_methodNamed B.named
  have hlocks := B.notSynchronized
  subst hsz
  have hA : ∀ q : Nat, s.heap.size ≤ q → (fun q : Nat => s.heap.size ≤ q) q := fun _ h => h
  have hS : va_S (fun q : Nat => s.heap.size ≤ q) s.heap s.heap [] := va_S.rf
  have hl := lv_entry ([.int x0, .int x1, .int x2, .int x3]) (n := 4) (Nat.le_of_ble_eq_true rfl)
  rw [lg_entry_eq]
  generalize (lg_sl ([.int x0, .int x1, .int x2, .int x3]) ++ List.replicate (4 - (lg_sl ([.int x0, .int x1, .int x2, .int x3])).length) Slot.unset).toArray = ls at hl ⊢
  have hl : lv_has ls 4 [(0, .int x0), (1, .int x1), (2, .int x2), (3, .int x3)] := hl
  refine gx_abs (fun G eG => ?_)
  have j33 : ∀ (s0 : Int32), vcMd_areChannels_33 x0 x1 x2 x3 post s0 → ∀ (H : Heap) (locs : List Loc) (ls : Array Slot), va_P (dC, dI) vwCl wdMd_areChannels H → va_S (fun q : Nat => s.heap.size ≤ q) s.heap H locs → lv_has ls 4 [] → G H locs 0 0 (F0 m 33 ls [.int s0]) := by
    intro s0 hv H locs ls hP hS hl
    rw [eG]
    unfold vcMd_areChannels_33 at hv
    obtain ⟨h_1, hv⟩ := hv
    exact W.zret (v := s0) hx hb hr h_1 (fun t ht hW => ⟨⟨_, (), rfl, hv, trivial⟩, hS.F ht⟩) hS.2.2 dMd_areChannels_33
  rw [eG] at j33
  have j32 : vcMd_areChannels_32 x0 x1 x2 x3 post → ∀ (H : Heap) (locs : List Loc) (ls : Array Slot), va_P (dC, dI) vwCl wdMd_areChannels H → va_S (fun q : Nat => s.heap.size ≤ q) s.heap H locs → lv_has ls 4 [] → G H locs 0 0 (F0 m 32 ls []) := by
    intro  hv H locs ls hP hS hl
    rw [eG]
    unfold vcMd_areChannels_32 at hv
    refine lv_iconst (v := 0) hx hb dMd_areChannels_32 (by decide) ?_
    exact j33 0 hv _ _ _ hP hS (lv_sub hl [] rfl)
  rw [eG] at j32
  unfold wpMd_areChannels at hw
  have hv := hw
  rw [eG]
  refine lv_iload_n hx hb dMd_areChannels_0 rfl (lv_at hl 0 rfl) ?_
  refine gx_ri (va_runS (As := [.int x0]) (rest := []) ⟨hx, hb, hml, hown, hB⟩ (metMd_isChannel l dC dI s.heap.size x0 hv) (va_cwS 1 hB (gx_gS bw691 bw692 bw53 bw693) rfl rfl rfl (by decide +kernel) ⟨(Nat.le_of_ble_eq_true rfl), (Nat.le_of_ble_eq_true rfl)⟩) (gx_rpreS (hP.sub (ws' := wdMd_isChannel) [] rfl) (hK.sub (tys' := []) [] rfl) hZ hS hA) rfl rfl hl.1 rfl (lv_room (Nat.le_of_ble_eq_true rfl)) dMd_areChannels_1 ⟨(Nat.le_of_ble_eq_true rfl), (Nat.le_of_ble_eq_true rfl)⟩) hP hS hA (fun r_2 H locs hv hP hS => ?_)
  refine lv_if_eq (tgt := 32) hx hb dMd_areChannels_4 (by decide) (fun c_4 => ?_) (fun c_4 => ?_)
  · have hv := hv.1 c_4
    exact j32  hv _ _ _ hP hS (lv_sub hl [] rfl)
  · have hv := hv.2 c_4
    refine lv_iload_n hx hb dMd_areChannels_7 rfl (lv_at hl 1 rfl) ?_
    refine gx_ri (va_runS (As := [.int x1]) (rest := []) ⟨hx, hb, hml, hown, hB⟩ (metMd_isChannel l dC dI H.size x1 hv) (va_cwS 1 hB (gx_gS bw691 bw692 bw53 bw693) rfl rfl rfl (by decide +kernel) ⟨(Nat.le_of_ble_eq_true rfl), (Nat.le_of_ble_eq_true rfl)⟩) (gx_rpreS (hP.sub (ws' := wdMd_isChannel) [] rfl) (hK.sub (tys' := []) [] rfl) hZ hS hA) rfl rfl hl.1 rfl (lv_room (Nat.le_of_ble_eq_true rfl)) dMd_areChannels_8 ⟨(Nat.le_of_ble_eq_true rfl), (Nat.le_of_ble_eq_true rfl)⟩) hP hS hA (fun r_5 H locs hv hP hS => ?_)
    refine lv_if_eq (tgt := 32) hx hb dMd_areChannels_11 (by decide) (fun c_7 => ?_) (fun c_7 => ?_)
    · have hv := hv.1 c_7
      exact j32  hv _ _ _ hP hS (lv_sub hl [] rfl)
    · have hv := hv.2 c_7
      refine lv_iload_n hx hb dMd_areChannels_14 rfl (lv_at hl 2 rfl) ?_
      refine gx_ri (va_runS (As := [.int x2]) (rest := []) ⟨hx, hb, hml, hown, hB⟩ (metMd_isChannel l dC dI H.size x2 hv) (va_cwS 1 hB (gx_gS bw691 bw692 bw53 bw693) rfl rfl rfl (by decide +kernel) ⟨(Nat.le_of_ble_eq_true rfl), (Nat.le_of_ble_eq_true rfl)⟩) (gx_rpreS (hP.sub (ws' := wdMd_isChannel) [] rfl) (hK.sub (tys' := []) [] rfl) hZ hS hA) rfl rfl hl.1 rfl (lv_room (Nat.le_of_ble_eq_true rfl)) dMd_areChannels_15 ⟨(Nat.le_of_ble_eq_true rfl), (Nat.le_of_ble_eq_true rfl)⟩) hP hS hA (fun r_8 H locs hv hP hS => ?_)
      refine lv_if_eq (tgt := 32) hx hb dMd_areChannels_18 (by decide) (fun c_10 => ?_) (fun c_10 => ?_)
      · have hv := hv.1 c_10
        exact j32  hv _ _ _ hP hS (lv_sub hl [] rfl)
      · have hv := hv.2 c_10
        refine lv_iload_n hx hb dMd_areChannels_21 rfl (lv_at hl 3 rfl) ?_
        refine gx_ri (va_runS (As := [.int x3]) (rest := []) ⟨hx, hb, hml, hown, hB⟩ (metMd_isChannel l dC dI H.size x3 hv) (va_cwS 1 hB (gx_gS bw691 bw692 bw53 bw693) rfl rfl rfl (by decide +kernel) ⟨(Nat.le_of_ble_eq_true rfl), (Nat.le_of_ble_eq_true rfl)⟩) (gx_rpreS (hP.sub (ws' := wdMd_isChannel) [] rfl) (hK.sub (tys' := []) [] rfl) hZ hS hA) rfl rfl hl.1 rfl (lv_room (Nat.le_of_ble_eq_true rfl)) dMd_areChannels_22 ⟨(Nat.le_of_ble_eq_true rfl), (Nat.le_of_ble_eq_true rfl)⟩) hP hS hA (fun r_11 H locs hv hP hS => ?_)
        refine lv_if_eq (tgt := 32) hx hb dMd_areChannels_25 (by decide) (fun c_13 => ?_) (fun c_13 => ?_)
        · have hv := hv.1 c_13
          exact j32  hv _ _ _ hP hS (lv_sub hl [] rfl)
        · have hv := hv.2 c_13
          refine lv_iconst (v := 1) hx hb dMd_areChannels_28 (by decide) ?_
          refine lv_goto (tgt := 33) hx hb dMd_areChannels_29 (by decide) ?_
          exact j33 1 hv _ _ _ hP hS (lv_sub hl [] rfl)
abbrev wdMd_put (q_this q_samples r_isGiven r_gives r_colours r_many r_group r_row r_channelOf r_spreads r_boxMany r_there r_groupMany r_means r_sums r_palette r_has r_takers r_takenSums r_order r_before r_roundSums r_carried : Nat) (c_samples : ClassId) (n_samples : Nat) (f_thrown : Int32) (f_width : Int32) (f_height : Int32) (f_different : Int32) (f_groups : Int32) (f_rowSize : Int32) (f_ready : Int32) (f_size : Int32) (f_rounds : Int32) (f_samples : Nat → Int32) : va_W := [(q_this, .inr (8, [.int f_thrown, .int f_width, .int f_height, .ref q_samples, .ref r_isGiven, .ref r_gives, .int f_different, .ref r_colours, .ref r_many, .ref r_group, .int f_groups, .ref r_row, .int f_rowSize, .ref r_channelOf, .ref r_spreads, .ref r_boxMany, .ref r_there, .ref r_groupMany, .ref r_means, .ref r_sums, .int f_ready, .int f_size, .ref r_palette, .ref r_has, .ref r_takers, .ref r_takenSums, .ref r_order, .ref r_before, .int f_rounds, .ref r_roundSums, .ref r_carried])), (q_samples, .inl (c_samples, n_samples, .inl f_samples))]
set_option maxHeartbeats 4000000 in
set_option maxRecDepth 100000 in
theorem metMd_put (l : Launch) (dC : Nat → ClassId) (dI : Nat → Nat → Nat) (q_this q_samples r_isGiven r_gives r_colours r_many r_group r_row r_channelOf r_spreads r_boxMany r_there r_groupMany r_means r_sums r_palette r_has r_takers r_takenSums r_order r_before r_roundSums r_carried : Nat) (c_samples : ClassId) (n_samples : Nat) (sz : Nat) (f_thrown : Int32) (f_width : Int32) (f_height : Int32) (f_different : Int32) (f_groups : Int32) (f_rowSize : Int32) (f_ready : Int32) (f_size : Int32) (f_rounds : Int32) (f_samples : Nat → Int32) (x1 : Int32) (x2 : Int32) (x3 : Int32) (x4 : Int32) (x5 : Int32) (x6 : Int32) {post : Int32 → Int32 → Int32 → (Nat → Int32) → Prop} (hw : wpMd_put n_samples f_thrown f_width f_height f_different f_groups f_rowSize f_ready f_size f_rounds f_samples x1 x2 x3 x4 x5 x6 post) : Met l yMd_put (.code yMd_put bMd_put 9 (some .boolean) :: BIG) ({ frames := 2, cells := 0, slots := 0, locals := 43 }) (va_Pc [.ref q_this, .int x1, .int x2, .int x3, .int x4, .int x5, .int x6] (gx_pre (dC, dI) vwCl (wdMd_put q_this q_samples r_isGiven r_gives r_colours r_many r_group r_row r_channelOf r_spreads r_boxMany r_there r_groupMany r_means r_sums r_palette r_has r_takers r_takenSums r_order r_before r_roundSums r_carried c_samples n_samples f_thrown f_width f_height f_different f_groups f_rowSize f_ready f_size f_rounds f_samples) [(c_samples, .int)] sz)) (va_Qi (fun r (u : Int32 × Int32 × (Nat → Int32)) => post r u.1 u.2.1 u.2.2) (gx_B (dC, dI) vwCl (va_A (wdMd_put q_this q_samples r_isGiven r_gives r_colours r_many r_group r_row r_channelOf r_spreads r_boxMany r_there r_groupMany r_means r_sums r_palette r_has r_takers r_takenSums r_order r_before r_roundSums r_carried c_samples n_samples f_thrown f_width f_height f_different f_groups f_rowSize f_ready f_size f_rounds f_samples) sz) (fun (u : Int32 × Int32 × (Nat → Int32)) => (wdMd_put q_this q_samples r_isGiven r_gives r_colours r_many r_group r_row r_channelOf r_spreads r_boxMany r_there r_groupMany r_means r_sums r_palette r_has r_takers r_takenSums r_order r_before r_roundSums r_carried c_samples n_samples u.1 f_width f_height f_different f_groups f_rowSize u.2.1 f_size f_rounds u.2.2))) (va_A (wdMd_put q_this q_samples r_isGiven r_gives r_colours r_many r_group r_row r_channelOf r_spreads r_boxMany r_there r_groupMany r_means r_sums r_palette r_has r_takers r_takenSums r_order r_before r_roundSums r_carried c_samples n_samples f_thrown f_width f_height f_different f_groups f_rowSize f_ready f_size f_rounds f_samples) sz)) 0 0 (va_A (wdMd_put q_this q_samples r_isGiven r_gives r_colours r_many r_group r_row r_channelOf r_spreads r_boxMany r_there r_groupMany r_means r_sums r_palette r_has r_takers r_takenSums r_order r_before r_roundSums r_carried c_samples n_samples f_thrown f_width f_height f_different f_groups f_rowSize f_ready f_size f_rounds f_samples) sz) := by
  refine Met.ofW (cc := bMd_put) (maxL := 9) (ret := (some .boolean)) (by decide) rfl ?_
  intro p e s m args below meth c s₁ B hml hv
  obtain ⟨rfl, hsz, hP, hK, hD0, hZ⟩ := hv
  have hx := B.exec
  have hb := B.bytes
  have hr := B.returns
  have hts := atoms_spec (ws := (.code yMd_put bMd_put 9 (some .boolean) :: BIG)) B.pre
  have hB : ∀ w ∈ BIG, w.before _ s = true := fun w h => hts w (List.mem_cons_of_mem _ h)
  have hown : s.vm.findClass RMd = some m.cls := findClass_of_methodNamed B.named
  have hlocks := B.notSynchronized
  subst hsz
  have hD := hD0.self (sz := s.heap.size)
  generalize hAe : va_A (wdMd_put q_this q_samples r_isGiven r_gives r_colours r_many r_group r_row r_channelOf r_spreads r_boxMany r_there r_groupMany r_means r_sums r_palette r_has r_takers r_takenSums r_order r_before r_roundSums r_carried c_samples n_samples f_thrown f_width f_height f_different f_groups f_rowSize f_ready f_size f_rounds f_samples) s.heap.size = A at hD hZ ⊢
  have hA : ∀ q : Nat, s.heap.size ≤ q → A q := fun q h => by rw [← hAe]; exact Or.inr h
  have hS : va_S A s.heap s.heap [] := va_S.rf
  have hl := lv_entry ([.ref q_this, .int x1, .int x2, .int x3, .int x4, .int x5, .int x6]) (n := 9) (Nat.le_of_ble_eq_true rfl)
  rw [lg_entry_eq]
  generalize (lg_sl ([.ref q_this, .int x1, .int x2, .int x3, .int x4, .int x5, .int x6]) ++ List.replicate (9 - (lg_sl ([.ref q_this, .int x1, .int x2, .int x3, .int x4, .int x5, .int x6])).length) Slot.unset).toArray = ls at hl ⊢
  have hl : lv_has ls 9 [(0, .ref q_this), (1, .int x1), (2, .int x2), (3, .int x3), (4, .int x4), (5, .int x5), (6, .int x6)] := hl
  have hL7 := (hB _ bw618)
  have hL78 := (hB _ bw616)
  have hL85 := (hB _ bw615)
  have hL100 := (hB _ bw635)
  refine gx_abs (fun G eG => ?_)
  have j114 : ∀ (v7 : Int32) (s0 : Int32) (f_thrown : Int32) (f_ready : Int32) (f_samples : Nat → Int32), vcMd_put_114 n_samples f_width f_height f_different f_groups f_rowSize f_size f_rounds x1 x2 x3 x4 x5 x6 post v7 s0 f_thrown f_ready f_samples → ∀ (H : Heap) (locs : List Loc) (ls : Array Slot), va_P (dC, dI) vwCl (wdMd_put q_this q_samples r_isGiven r_gives r_colours r_many r_group r_row r_channelOf r_spreads r_boxMany r_there r_groupMany r_means r_sums r_palette r_has r_takers r_takenSums r_order r_before r_roundSums r_carried c_samples n_samples f_thrown f_width f_height f_different f_groups f_rowSize f_ready f_size f_rounds f_samples) H → va_D A (wdMd_put q_this q_samples r_isGiven r_gives r_colours r_many r_group r_row r_channelOf r_spreads r_boxMany r_there r_groupMany r_means r_sums r_palette r_has r_takers r_takenSums r_order r_before r_roundSums r_carried c_samples n_samples f_thrown f_width f_height f_different f_groups f_rowSize f_ready f_size f_rounds f_samples) → va_S A s.heap H locs → lv_has ls 9 [(0, .ref q_this), (3, .int x3), (4, .int x4), (5, .int x5), (6, .int x6), (7, .int v7)] → G H locs 0 0 (F0 m 114 ls [.int s0]) := by
    intro v7 s0 f_thrown f_ready f_samples hv H locs ls hP hD hS hl
    rw [eG]
    unfold vcMd_put_114 at hv
    refine lv_istore (lv' := [(8, .int s0), (0, .ref q_this), (3, .int x3), (4, .int x4), (5, .int x5), (6, .int x6), (7, .int v7)]) hx hb dMd_put_114 hl (by decide) rfl (fun ls hl => ?_)
    refine lv_aload_n hx hb dMd_put_116 rfl (lv_at hl 1 rfl) ?_
    refine va_get (D := (dC, dI)) (ci := 8) (v := .ref q_samples) (C := RMd) (T := TMd) (N := 31) hx hb hB hiMd hown hK hP 0 rfl rfl 3 (by decide) hL7 (fun _ h9 => h9) rfl dMd_put_117 ?_
    refine lv_iload hx hb dMd_put_120 (lv_at hl 6 rfl) ?_
    refine lv_iload_n hx hb dMd_put_122 rfl (lv_at hl 2 rfl) ?_
    obtain ⟨h_1, hv⟩ := hv
    refine va_iast hx hb hK hP hD hS 1 0 rfl rfl h_1 dMd_put_123 (fun H locs hP hD hS => ?_)
    have hP : va_P (dC, dI) vwCl (wdMd_put q_this q_samples r_isGiven r_gives r_colours r_many r_group r_row r_channelOf r_spreads r_boxMany r_there r_groupMany r_means r_sums r_palette r_has r_takers r_takenSums r_order r_before r_roundSums r_carried c_samples n_samples f_thrown f_width f_height f_different f_groups f_rowSize f_ready f_size f_rounds (upd f_samples v7.toNatClampNeg x3)) H := hP
    have hD : va_D A (wdMd_put q_this q_samples r_isGiven r_gives r_colours r_many r_group r_row r_channelOf r_spreads r_boxMany r_there r_groupMany r_means r_sums r_palette r_has r_takers r_takenSums r_order r_before r_roundSums r_carried c_samples n_samples f_thrown f_width f_height f_different f_groups f_rowSize f_ready f_size f_rounds (upd f_samples v7.toNatClampNeg x3)) := hD
    refine lv_aload_n hx hb dMd_put_124 rfl (lv_at hl 1 rfl) ?_
    refine va_get (D := (dC, dI)) (ci := 8) (v := .ref q_samples) (C := RMd) (T := TMd) (N := 31) hx hb hB hiMd hown hK hP 0 rfl rfl 3 (by decide) hL7 (fun _ h9 => h9) rfl dMd_put_125 ?_
    refine lv_iload hx hb dMd_put_128 (lv_at hl 6 rfl) ?_
    refine lv_iconst (v := 1) hx hb dMd_put_130 (by decide) ?_
    refine lv_iadd hx hb dMd_put_131 ?_
    refine lv_iload hx hb dMd_put_132 (lv_at hl 3 rfl) ?_
    obtain ⟨h_3, hv⟩ := hv
    refine va_iast hx hb hK hP hD hS 1 0 rfl rfl h_3 dMd_put_134 (fun H locs hP hD hS => ?_)
    have hP : va_P (dC, dI) vwCl (wdMd_put q_this q_samples r_isGiven r_gives r_colours r_many r_group r_row r_channelOf r_spreads r_boxMany r_there r_groupMany r_means r_sums r_palette r_has r_takers r_takenSums r_order r_before r_roundSums r_carried c_samples n_samples f_thrown f_width f_height f_different f_groups f_rowSize f_ready f_size f_rounds (upd (upd f_samples v7.toNatClampNeg x3) (v7 + 1).toNatClampNeg x4)) H := hP
    have hD : va_D A (wdMd_put q_this q_samples r_isGiven r_gives r_colours r_many r_group r_row r_channelOf r_spreads r_boxMany r_there r_groupMany r_means r_sums r_palette r_has r_takers r_takenSums r_order r_before r_roundSums r_carried c_samples n_samples f_thrown f_width f_height f_different f_groups f_rowSize f_ready f_size f_rounds (upd (upd f_samples v7.toNatClampNeg x3) (v7 + 1).toNatClampNeg x4)) := hD
    refine lv_aload_n hx hb dMd_put_135 rfl (lv_at hl 1 rfl) ?_
    refine va_get (D := (dC, dI)) (ci := 8) (v := .ref q_samples) (C := RMd) (T := TMd) (N := 31) hx hb hB hiMd hown hK hP 0 rfl rfl 3 (by decide) hL7 (fun _ h9 => h9) rfl dMd_put_136 ?_
    refine lv_iload hx hb dMd_put_139 (lv_at hl 6 rfl) ?_
    refine lv_iconst (v := 2) hx hb dMd_put_141 (by decide) ?_
    refine lv_iadd hx hb dMd_put_142 ?_
    refine lv_iload hx hb dMd_put_143 (lv_at hl 4 rfl) ?_
    obtain ⟨h_5, hv⟩ := hv
    refine va_iast hx hb hK hP hD hS 1 0 rfl rfl h_5 dMd_put_145 (fun H locs hP hD hS => ?_)
    have hP : va_P (dC, dI) vwCl (wdMd_put q_this q_samples r_isGiven r_gives r_colours r_many r_group r_row r_channelOf r_spreads r_boxMany r_there r_groupMany r_means r_sums r_palette r_has r_takers r_takenSums r_order r_before r_roundSums r_carried c_samples n_samples f_thrown f_width f_height f_different f_groups f_rowSize f_ready f_size f_rounds (upd (upd (upd f_samples v7.toNatClampNeg x3) (v7 + 1).toNatClampNeg x4) (v7 + 2).toNatClampNeg x5)) H := hP
    have hD : va_D A (wdMd_put q_this q_samples r_isGiven r_gives r_colours r_many r_group r_row r_channelOf r_spreads r_boxMany r_there r_groupMany r_means r_sums r_palette r_has r_takers r_takenSums r_order r_before r_roundSums r_carried c_samples n_samples f_thrown f_width f_height f_different f_groups f_rowSize f_ready f_size f_rounds (upd (upd (upd f_samples v7.toNatClampNeg x3) (v7 + 1).toNatClampNeg x4) (v7 + 2).toNatClampNeg x5)) := hD
    refine lv_aload_n hx hb dMd_put_146 rfl (lv_at hl 1 rfl) ?_
    refine va_get (D := (dC, dI)) (ci := 8) (v := .ref q_samples) (C := RMd) (T := TMd) (N := 31) hx hb hB hiMd hown hK hP 0 rfl rfl 3 (by decide) hL7 (fun _ h9 => h9) rfl dMd_put_147 ?_
    refine lv_iload hx hb dMd_put_150 (lv_at hl 6 rfl) ?_
    refine lv_iconst (v := 3) hx hb dMd_put_152 (by decide) ?_
    refine lv_iadd hx hb dMd_put_153 ?_
    refine lv_iload hx hb dMd_put_154 (lv_at hl 5 rfl) ?_
    obtain ⟨h_7, hv⟩ := hv
    refine va_iast hx hb hK hP hD hS 1 0 rfl rfl h_7 dMd_put_156 (fun H locs hP hD hS => ?_)
    have hP : va_P (dC, dI) vwCl (wdMd_put q_this q_samples r_isGiven r_gives r_colours r_many r_group r_row r_channelOf r_spreads r_boxMany r_there r_groupMany r_means r_sums r_palette r_has r_takers r_takenSums r_order r_before r_roundSums r_carried c_samples n_samples f_thrown f_width f_height f_different f_groups f_rowSize f_ready f_size f_rounds (upd (upd (upd (upd f_samples v7.toNatClampNeg x3) (v7 + 1).toNatClampNeg x4) (v7 + 2).toNatClampNeg x5) (v7 + 3).toNatClampNeg x6)) H := hP
    have hD : va_D A (wdMd_put q_this q_samples r_isGiven r_gives r_colours r_many r_group r_row r_channelOf r_spreads r_boxMany r_there r_groupMany r_means r_sums r_palette r_has r_takers r_takenSums r_order r_before r_roundSums r_carried c_samples n_samples f_thrown f_width f_height f_different f_groups f_rowSize f_ready f_size f_rounds (upd (upd (upd (upd f_samples v7.toNatClampNeg x3) (v7 + 1).toNatClampNeg x4) (v7 + 2).toNatClampNeg x5) (v7 + 3).toNatClampNeg x6)) := hD
    refine lv_aload_n hx hb dMd_put_157 rfl (lv_at hl 1 rfl) ?_
    refine lv_iconst (v := 0) hx hb dMd_put_158 (by decide) ?_
    refine va_put (D := (dC, dI)) (ci := 8) (v := .int 0) (ty := .boolean) (C := RMd) (T := TMd) (N := 31) hx hb hB hiMd tMd tMd_ok nMd hown hK hP hD hS 0 rfl rfl 20 (by decide) hL100 (fun _ h9 => h9) rfl (by decide +kernel) rfl rfl (Nat.le_of_ble_eq_true rfl) dMd_put_159 (fun H locs hP hD hS => ?_)
    have hP : va_P (dC, dI) vwCl (wdMd_put q_this q_samples r_isGiven r_gives r_colours r_many r_group r_row r_channelOf r_spreads r_boxMany r_there r_groupMany r_means r_sums r_palette r_has r_takers r_takenSums r_order r_before r_roundSums r_carried c_samples n_samples f_thrown f_width f_height f_different f_groups f_rowSize 0 f_size f_rounds (upd (upd (upd (upd f_samples v7.toNatClampNeg x3) (v7 + 1).toNatClampNeg x4) (v7 + 2).toNatClampNeg x5) (v7 + 3).toNatClampNeg x6)) H := hP
    have hD : va_D A (wdMd_put q_this q_samples r_isGiven r_gives r_colours r_many r_group r_row r_channelOf r_spreads r_boxMany r_there r_groupMany r_means r_sums r_palette r_has r_takers r_takenSums r_order r_before r_roundSums r_carried c_samples n_samples f_thrown f_width f_height f_different f_groups f_rowSize 0 f_size f_rounds (upd (upd (upd (upd f_samples v7.toNatClampNeg x3) (v7 + 1).toNatClampNeg x4) (v7 + 2).toNatClampNeg x5) (v7 + 3).toNatClampNeg x6)) := hD
    refine lv_iload hx hb dMd_put_162 (lv_at hl 0 rfl) ?_
    obtain ⟨h_9, hv⟩ := hv
    exact W.zret (v := s0) hx hb hr h_9 (fun t ht hW => ⟨⟨_, (f_thrown, 0, upd (upd (upd (upd f_samples v7.toNatClampNeg x3) (v7 + 1).toNatClampNeg x4) (v7 + 2).toNatClampNeg x5) (v7 + 3).toNatClampNeg x6), rfl, hv, by rw [ht]; exact hP, hD⟩, hS.F ht⟩) hS.2.2 dMd_put_164
  rw [eG] at j114
  have j109 : ∀ (v7 : Int32) (f_thrown : Int32) (f_ready : Int32) (f_samples : Nat → Int32), vcMd_put_109 n_samples f_width f_height f_different f_groups f_rowSize f_size f_rounds x1 x2 x3 x4 x5 x6 post v7 f_thrown f_ready f_samples → ∀ (H : Heap) (locs : List Loc) (ls : Array Slot), va_P (dC, dI) vwCl (wdMd_put q_this q_samples r_isGiven r_gives r_colours r_many r_group r_row r_channelOf r_spreads r_boxMany r_there r_groupMany r_means r_sums r_palette r_has r_takers r_takenSums r_order r_before r_roundSums r_carried c_samples n_samples f_thrown f_width f_height f_different f_groups f_rowSize f_ready f_size f_rounds f_samples) H → va_D A (wdMd_put q_this q_samples r_isGiven r_gives r_colours r_many r_group r_row r_channelOf r_spreads r_boxMany r_there r_groupMany r_means r_sums r_palette r_has r_takers r_takenSums r_order r_before r_roundSums r_carried c_samples n_samples f_thrown f_width f_height f_different f_groups f_rowSize f_ready f_size f_rounds f_samples) → va_S A s.heap H locs → lv_has ls 9 [(0, .ref q_this), (3, .int x3), (4, .int x4), (5, .int x5), (6, .int x6), (7, .int v7)] → G H locs 0 0 (F0 m 109 ls []) := by
    intro v7 f_thrown f_ready f_samples hv H locs ls hP hD hS hl
    rw [eG]
    unfold vcMd_put_109 at hv
    refine lv_iconst (v := 1) hx hb dMd_put_109 (by decide) ?_
    refine lv_goto (tgt := 114) hx hb dMd_put_110 (by decide) ?_
    exact j114 v7 1 f_thrown f_ready f_samples hv _ _ _ hP hD hS (lv_sub hl [0, 1, 2, 3, 4, 5] rfl)
  rw [eG] at j109
  have j32 : ∀ (s0 : Int32), vcMd_put_32 n_samples f_width f_height f_different f_groups f_rowSize f_size f_rounds x1 x2 x3 x4 x5 x6 post s0 f_thrown f_ready f_samples → ∀ (H : Heap) (locs : List Loc) (ls : Array Slot), va_P (dC, dI) vwCl (wdMd_put q_this q_samples r_isGiven r_gives r_colours r_many r_group r_row r_channelOf r_spreads r_boxMany r_there r_groupMany r_means r_sums r_palette r_has r_takers r_takenSums r_order r_before r_roundSums r_carried c_samples n_samples f_thrown f_width f_height f_different f_groups f_rowSize f_ready f_size f_rounds f_samples) H → va_D A (wdMd_put q_this q_samples r_isGiven r_gives r_colours r_many r_group r_row r_channelOf r_spreads r_boxMany r_there r_groupMany r_means r_sums r_palette r_has r_takers r_takenSums r_order r_before r_roundSums r_carried c_samples n_samples f_thrown f_width f_height f_different f_groups f_rowSize f_ready f_size f_rounds f_samples) → va_S A s.heap H locs → lv_has ls 9 [(0, .ref q_this), (1, .int x1), (2, .int x2), (3, .int x3), (4, .int x4), (5, .int x5), (6, .int x6)] → G H locs 0 0 (F0 m 32 ls [.int s0, .ref q_this]) := by
    intro s0 hv H locs ls hP hD hS hl
    rw [eG]
    unfold vcMd_put_32 at hv
    refine va_put (D := (dC, dI)) (ci := 8) (v := .int s0) (ty := .int) (C := RMd) (T := TMd) (N := 31) hx hb hB hiMd tMd tMd_ok nMd hown hK hP hD hS 0 rfl rfl 0 (by decide) hL85 (fun _ h9 => h9) rfl (by decide +kernel) rfl rfl (Nat.le_of_ble_eq_true rfl) dMd_put_32 (fun H locs hP hD hS => ?_)
    have hP : va_P (dC, dI) vwCl (wdMd_put q_this q_samples r_isGiven r_gives r_colours r_many r_group r_row r_channelOf r_spreads r_boxMany r_there r_groupMany r_means r_sums r_palette r_has r_takers r_takenSums r_order r_before r_roundSums r_carried c_samples n_samples s0 f_width f_height f_different f_groups f_rowSize f_ready f_size f_rounds f_samples) H := hP
    have hD : va_D A (wdMd_put q_this q_samples r_isGiven r_gives r_colours r_many r_group r_row r_channelOf r_spreads r_boxMany r_there r_groupMany r_means r_sums r_palette r_has r_takers r_takenSums r_order r_before r_roundSums r_carried c_samples n_samples s0 f_width f_height f_different f_groups f_rowSize f_ready f_size f_rounds f_samples) := hD
    refine lv_aload_n hx hb dMd_put_35 rfl (lv_at hl 0 rfl) ?_
    refine va_get (D := (dC, dI)) (ci := 8) (v := .int s0) (C := RMd) (T := TMd) (N := 31) hx hb hB hiMd hown hK hP 0 rfl rfl 0 (by decide) hL85 (fun _ h9 => h9) rfl dMd_put_36 ?_
    refine lv_if_le (tgt := 44) hx hb dMd_put_39 (by decide) (fun c_10 => ?_) (fun c_10 => ?_)
    · have hv := hv.1 c_10
      refine lv_iconst (v := 4) hx hb dMd_put_44 (by decide) ?_
      refine lv_aload_n hx hb dMd_put_45 rfl (lv_at hl 0 rfl) ?_
      refine va_get (D := (dC, dI)) (ci := 8) (v := .int f_width) (C := RMd) (T := TMd) (N := 31) hx hb hB hiMd hown hK hP 0 rfl rfl 1 (by decide) hL78 (fun _ h9 => h9) rfl dMd_put_46 ?_
      refine lv_iload_n hx hb dMd_put_49 rfl (lv_at hl 2 rfl) ?_
      refine lv_imul hx hb dMd_put_50 ?_
      refine lv_iload_n hx hb dMd_put_51 rfl (lv_at hl 1 rfl) ?_
      refine lv_iadd hx hb dMd_put_52 ?_
      refine lv_imul hx hb dMd_put_53 ?_
      refine lv_topi (fun v7_11 ev7_11 => ?_)
      have hv := hv v7_11 ev7_11
      refine lv_istore (lv' := [(7, .int v7_11), (0, .ref q_this), (1, .int x1), (2, .int x2), (3, .int x3), (4, .int x4), (5, .int x5), (6, .int x6)]) hx hb dMd_put_54 hl (by decide) rfl (fun ls hl => ?_)
      refine lv_aload_n hx hb dMd_put_56 rfl (lv_at hl 1 rfl) ?_
      refine va_get (D := (dC, dI)) (ci := 8) (v := .ref q_samples) (C := RMd) (T := TMd) (N := 31) hx hb hB hiMd hown hK hP 0 rfl rfl 3 (by decide) hL7 (fun _ h9 => h9) rfl dMd_put_57 ?_
      refine lv_iload hx hb dMd_put_60 (lv_at hl 0 rfl) ?_
      obtain ⟨h_12, hv⟩ := hv
      refine va_iald hx hb hK hP 1 0 rfl rfl h_12 dMd_put_62 ?_
      refine lv_iload_n hx hb dMd_put_63 rfl (lv_at hl 4 rfl) ?_
      refine lv_icmp_ne (tgt := 109) hx hb dMd_put_64 (by decide) (fun c_13 => ?_) (fun c_13 => ?_)
      · have hv := hv.1 c_13
        exact j109 v7_11 s0 f_ready f_samples hv _ _ _ hP hD hS (lv_sub hl [1, 4, 5, 6, 7, 0] rfl)
      · have hv := hv.2 c_13
        refine lv_aload_n hx hb dMd_put_67 rfl (lv_at hl 1 rfl) ?_
        refine va_get (D := (dC, dI)) (ci := 8) (v := .ref q_samples) (C := RMd) (T := TMd) (N := 31) hx hb hB hiMd hown hK hP 0 rfl rfl 3 (by decide) hL7 (fun _ h9 => h9) rfl dMd_put_68 ?_
        refine lv_iload hx hb dMd_put_71 (lv_at hl 0 rfl) ?_
        refine lv_iconst (v := 1) hx hb dMd_put_73 (by decide) ?_
        refine lv_iadd hx hb dMd_put_74 ?_
        obtain ⟨h_14, hv⟩ := hv
        refine va_iald hx hb hK hP 1 0 rfl rfl h_14 dMd_put_75 ?_
        refine lv_iload hx hb dMd_put_76 (lv_at hl 5 rfl) ?_
        refine lv_icmp_ne (tgt := 109) hx hb dMd_put_78 (by decide) (fun c_15 => ?_) (fun c_15 => ?_)
        · have hv := hv.1 c_15
          exact j109 v7_11 s0 f_ready f_samples hv _ _ _ hP hD hS (lv_sub hl [1, 4, 5, 6, 7, 0] rfl)
        · have hv := hv.2 c_15
          refine lv_aload_n hx hb dMd_put_81 rfl (lv_at hl 1 rfl) ?_
          refine va_get (D := (dC, dI)) (ci := 8) (v := .ref q_samples) (C := RMd) (T := TMd) (N := 31) hx hb hB hiMd hown hK hP 0 rfl rfl 3 (by decide) hL7 (fun _ h9 => h9) rfl dMd_put_82 ?_
          refine lv_iload hx hb dMd_put_85 (lv_at hl 0 rfl) ?_
          refine lv_iconst (v := 2) hx hb dMd_put_87 (by decide) ?_
          refine lv_iadd hx hb dMd_put_88 ?_
          obtain ⟨h_16, hv⟩ := hv
          refine va_iald hx hb hK hP 1 0 rfl rfl h_16 dMd_put_89 ?_
          refine lv_iload hx hb dMd_put_90 (lv_at hl 6 rfl) ?_
          refine lv_icmp_ne (tgt := 109) hx hb dMd_put_92 (by decide) (fun c_17 => ?_) (fun c_17 => ?_)
          · have hv := hv.1 c_17
            exact j109 v7_11 s0 f_ready f_samples hv _ _ _ hP hD hS (lv_sub hl [1, 4, 5, 6, 7, 0] rfl)
          · have hv := hv.2 c_17
            refine lv_aload_n hx hb dMd_put_95 rfl (lv_at hl 1 rfl) ?_
            refine va_get (D := (dC, dI)) (ci := 8) (v := .ref q_samples) (C := RMd) (T := TMd) (N := 31) hx hb hB hiMd hown hK hP 0 rfl rfl 3 (by decide) hL7 (fun _ h9 => h9) rfl dMd_put_96 ?_
            refine lv_iload hx hb dMd_put_99 (lv_at hl 0 rfl) ?_
            refine lv_iconst (v := 3) hx hb dMd_put_101 (by decide) ?_
            refine lv_iadd hx hb dMd_put_102 ?_
            obtain ⟨h_18, hv⟩ := hv
            refine va_iald hx hb hK hP 1 0 rfl rfl h_18 dMd_put_103 ?_
            refine lv_iload hx hb dMd_put_104 (lv_at hl 7 rfl) ?_
            refine lv_icmp_eq (tgt := 113) hx hb dMd_put_106 (by decide) (fun c_19 => ?_) (fun c_19 => ?_)
            · have hv := hv.1 c_19
              refine lv_iconst (v := 0) hx hb dMd_put_113 (by decide) ?_
              exact j114 v7_11 0 s0 f_ready f_samples hv _ _ _ hP hD hS (lv_sub hl [1, 4, 5, 6, 7, 0] rfl)
            · have hv := hv.2 c_19
              exact j109 v7_11 s0 f_ready f_samples hv _ _ _ hP hD hS (lv_sub hl [1, 4, 5, 6, 7, 0] rfl)
    · have hv := hv.2 c_10
      refine lv_iconst (v := 0) hx hb dMd_put_42 (by decide) ?_
      obtain ⟨h_20, hv⟩ := hv
      exact W.zret (v := 0) hx hb hr h_20 (fun t ht hW => ⟨⟨_, (s0, f_ready, f_samples), rfl, hv, by rw [ht]; exact hP, hD⟩, hS.F ht⟩) hS.2.2 dMd_put_43
  rw [eG] at j32
  unfold wpMd_put at hw
  have hv := hw
  rw [eG]
  refine lv_aload_n hx hb dMd_put_0 rfl (lv_at hl 0 rfl) ?_
  refine lv_aload_n hx hb dMd_put_1 rfl (lv_at hl 0 rfl) ?_
  refine lv_iload_n hx hb dMd_put_2 rfl (lv_at hl 1 rfl) ?_
  refine lv_iload_n hx hb dMd_put_3 rfl (lv_at hl 2 rfl) ?_
  refine gx_ri (va_runV (As := [.int x1, .int x2]) (rest := [.ref q_this]) ⟨hx, hb, hml, hown, hB⟩ (metMd_isPlace l dC dI q_this q_samples r_isGiven r_gives r_colours r_many r_group r_row r_channelOf r_spreads r_boxMany r_there r_groupMany r_means r_sums r_palette r_has r_takers r_takenSums r_order r_before r_roundSums r_carried s.heap.size f_thrown f_width f_height f_different f_groups f_rowSize f_ready f_size f_rounds x1 x2 hv) (cwV 2 hB (gx_gV bw685 bw686 bw24 bw53 bw687) rfl rfl rfl (by decide +kernel) ⟨(Nat.le_of_ble_eq_true rfl), (Nat.le_of_ble_eq_true rfl)⟩) (gx_rpreV (ci := 8) (hP.sub (ws' := (wdMd_isPlace q_this q_samples r_isGiven r_gives r_colours r_many r_group r_row r_channelOf r_spreads r_boxMany r_there r_groupMany r_means r_sums r_palette r_has r_takers r_takenSums r_order r_before r_roundSums r_carried f_thrown f_width f_height f_different f_groups f_rowSize f_ready f_size f_rounds)) [0] rfl) (hK.sub (tys' := []) [] rfl) hZ hS hA rfl rfl) rfl rfl hl.1 rfl (lv_room (Nat.le_of_ble_eq_true rfl)) dMd_put_4 ⟨(Nat.le_of_ble_eq_true rfl), (Nat.le_of_ble_eq_true rfl)⟩) hP hS hA (fun r_21 H locs hv hP hS => ?_)
  refine lv_if_ne (tgt := 14) hx hb dMd_put_7 (by decide) (fun c_23 => ?_) (fun c_23 => ?_)
  · have hv := hv.1 c_23
    refine lv_iload_n hx hb dMd_put_14 rfl (lv_at hl 3 rfl) ?_
    refine lv_iload hx hb dMd_put_15 (lv_at hl 4 rfl) ?_
    refine lv_iload hx hb dMd_put_17 (lv_at hl 5 rfl) ?_
    refine lv_iload hx hb dMd_put_19 (lv_at hl 6 rfl) ?_
    refine gx_ri (va_runS (As := [.int x3, .int x4, .int x5, .int x6]) (rest := [.ref q_this]) ⟨hx, hb, hml, hown, hB⟩ (metMd_areChannels l dC dI H.size x3 x4 x5 x6 hv) (va_cwS 4 hB (gx_gS bw688 bw689 bw53 bw690) rfl rfl rfl (by decide +kernel) ⟨(Nat.le_of_ble_eq_true rfl), (Nat.le_of_ble_eq_true rfl)⟩) (gx_rpreS (hP.sub (ws' := wdMd_areChannels) [] rfl) (hK.sub (tys' := []) [] rfl) hZ hS hA) rfl rfl hl.1 rfl (lv_room (Nat.le_of_ble_eq_true rfl)) dMd_put_21 ⟨(Nat.le_of_ble_eq_true rfl), (Nat.le_of_ble_eq_true rfl)⟩) hP hS hA (fun r_24 H locs hv hP hS => ?_)
    refine lv_if_eq (tgt := 31) hx hb dMd_put_24 (by decide) (fun c_26 => ?_) (fun c_26 => ?_)
    · have hv := hv.1 c_26
      refine lv_iconst (v := 2) hx hb dMd_put_31 (by decide) ?_
      exact j32 2 hv _ _ _ hP hD hS (lv_sub hl [0, 1, 2, 3, 4, 5, 6] rfl)
    · have hv := hv.2 c_26
      refine lv_iconst (v := 0) hx hb dMd_put_27 (by decide) ?_
      refine lv_goto (tgt := 32) hx hb dMd_put_28 (by decide) ?_
      exact j32 0 hv _ _ _ hP hD hS (lv_sub hl [0, 1, 2, 3, 4, 5, 6] rfl)
  · have hv := hv.2 c_23
    refine lv_iconst (v := 1) hx hb dMd_put_10 (by decide) ?_
    refine lv_goto (tgt := 32) hx hb dMd_put_11 (by decide) ?_
    exact j32 1 hv _ _ _ hP hD hS (lv_sub hl [0, 1, 2, 3, 4, 5, 6] rfl)
abbrev wdMd_paint (q_this q_samples r_isGiven r_gives r_colours r_many r_group r_row r_channelOf r_spreads r_boxMany r_there r_groupMany r_means r_sums r_palette r_has r_takers r_takenSums r_order r_before r_roundSums r_carried : Nat) (c_samples : ClassId) (n_samples : Nat) (f_thrown : Int32) (f_width : Int32) (f_height : Int32) (f_different : Int32) (f_groups : Int32) (f_rowSize : Int32) (f_ready : Int32) (f_size : Int32) (f_rounds : Int32) (f_samples : Nat → Int32) : va_W := [(q_this, .inr (8, [.int f_thrown, .int f_width, .int f_height, .ref q_samples, .ref r_isGiven, .ref r_gives, .int f_different, .ref r_colours, .ref r_many, .ref r_group, .int f_groups, .ref r_row, .int f_rowSize, .ref r_channelOf, .ref r_spreads, .ref r_boxMany, .ref r_there, .ref r_groupMany, .ref r_means, .ref r_sums, .int f_ready, .int f_size, .ref r_palette, .ref r_has, .ref r_takers, .ref r_takenSums, .ref r_order, .ref r_before, .int f_rounds, .ref r_roundSums, .ref r_carried])), (q_samples, .inl (c_samples, n_samples, .inl f_samples))]
set_option maxHeartbeats 4000000 in
set_option maxRecDepth 100000 in
theorem metMd_paint (l : Launch) (dC : Nat → ClassId) (dI : Nat → Nat → Nat) (q_this q_samples r_isGiven r_gives r_colours r_many r_group r_row r_channelOf r_spreads r_boxMany r_there r_groupMany r_means r_sums r_palette r_has r_takers r_takenSums r_order r_before r_roundSums r_carried : Nat) (c_samples : ClassId) (n_samples : Nat) (sz : Nat) (f_thrown : Int32) (f_width : Int32) (f_height : Int32) (f_different : Int32) (f_groups : Int32) (f_rowSize : Int32) (f_ready : Int32) (f_size : Int32) (f_rounds : Int32) (f_samples : Nat → Int32) (x1 : Int32) (x2 : Int32) (x3 : Int32) (x4 : Int32) (x5 : Int32) {post : Int32 → Int32 → Int32 → (Nat → Int32) → Prop} (hw : wpMd_paint n_samples f_thrown f_width f_height f_different f_groups f_rowSize f_ready f_size f_rounds f_samples x1 x2 x3 x4 x5 post) : Met l yMd_paint (.code yMd_paint bMd_paint 10 (some .int) :: BIG) ({ frames := 1, cells := 0, slots := 0, locals := 22 }) (va_Pc [.ref q_this, .int x1, .int x2, .int x3, .int x4, .int x5] (gx_pre (dC, dI) vwCl (wdMd_paint q_this q_samples r_isGiven r_gives r_colours r_many r_group r_row r_channelOf r_spreads r_boxMany r_there r_groupMany r_means r_sums r_palette r_has r_takers r_takenSums r_order r_before r_roundSums r_carried c_samples n_samples f_thrown f_width f_height f_different f_groups f_rowSize f_ready f_size f_rounds f_samples) [(c_samples, .int)] sz)) (va_Qi (fun r (u : Int32 × Int32 × (Nat → Int32)) => post r u.1 u.2.1 u.2.2) (gx_B (dC, dI) vwCl (va_A (wdMd_paint q_this q_samples r_isGiven r_gives r_colours r_many r_group r_row r_channelOf r_spreads r_boxMany r_there r_groupMany r_means r_sums r_palette r_has r_takers r_takenSums r_order r_before r_roundSums r_carried c_samples n_samples f_thrown f_width f_height f_different f_groups f_rowSize f_ready f_size f_rounds f_samples) sz) (fun (u : Int32 × Int32 × (Nat → Int32)) => (wdMd_paint q_this q_samples r_isGiven r_gives r_colours r_many r_group r_row r_channelOf r_spreads r_boxMany r_there r_groupMany r_means r_sums r_palette r_has r_takers r_takenSums r_order r_before r_roundSums r_carried c_samples n_samples u.1 f_width f_height f_different f_groups f_rowSize u.2.1 f_size f_rounds u.2.2))) (va_A (wdMd_paint q_this q_samples r_isGiven r_gives r_colours r_many r_group r_row r_channelOf r_spreads r_boxMany r_there r_groupMany r_means r_sums r_palette r_has r_takers r_takenSums r_order r_before r_roundSums r_carried c_samples n_samples f_thrown f_width f_height f_different f_groups f_rowSize f_ready f_size f_rounds f_samples) sz)) 0 0 (va_A (wdMd_paint q_this q_samples r_isGiven r_gives r_colours r_many r_group r_row r_channelOf r_spreads r_boxMany r_there r_groupMany r_means r_sums r_palette r_has r_takers r_takenSums r_order r_before r_roundSums r_carried c_samples n_samples f_thrown f_width f_height f_different f_groups f_rowSize f_ready f_size f_rounds f_samples) sz) := by
  refine Met.ofW (cc := bMd_paint) (maxL := 10) (ret := (some .int)) (by decide) rfl ?_
  intro p e s m args below meth c s₁ B hml hv
  obtain ⟨rfl, hsz, hP, hK, hD0, hZ⟩ := hv
  have hx := B.exec
  have hb := B.bytes
  have hr := B.returns
  have hts := atoms_spec (ws := (.code yMd_paint bMd_paint 10 (some .int) :: BIG)) B.pre
  have hB : ∀ w ∈ BIG, w.before _ s = true := fun w h => hts w (List.mem_cons_of_mem _ h)
  have hown : s.vm.findClass RMd = some m.cls := findClass_of_methodNamed B.named
  have hlocks := B.notSynchronized
  subst hsz
  have hD := hD0.self (sz := s.heap.size)
  generalize hAe : va_A (wdMd_paint q_this q_samples r_isGiven r_gives r_colours r_many r_group r_row r_channelOf r_spreads r_boxMany r_there r_groupMany r_means r_sums r_palette r_has r_takers r_takenSums r_order r_before r_roundSums r_carried c_samples n_samples f_thrown f_width f_height f_different f_groups f_rowSize f_ready f_size f_rounds f_samples) s.heap.size = A at hD hZ ⊢
  have hA : ∀ q : Nat, s.heap.size ≤ q → A q := fun q h => by rw [← hAe]; exact Or.inr h
  have hS : va_S A s.heap s.heap [] := va_S.rf
  have hl := lv_entry ([.ref q_this, .int x1, .int x2, .int x3, .int x4, .int x5]) (n := 10) (Nat.le_of_ble_eq_true rfl)
  rw [lg_entry_eq]
  generalize (lg_sl ([.ref q_this, .int x1, .int x2, .int x3, .int x4, .int x5]) ++ List.replicate (10 - (lg_sl ([.ref q_this, .int x1, .int x2, .int x3, .int x4, .int x5])).length) Slot.unset).toArray = ls at hl ⊢
  have hl : lv_has ls 10 [(0, .ref q_this), (1, .int x1), (2, .int x2), (3, .int x3), (4, .int x4), (5, .int x5)] := hl
  have hL7 := (hB _ bw618)
  have hL78 := (hB _ bw616)
  have hL82 := (hB _ bw617)
  have hL85 := (hB _ bw615)
  have hL100 := (hB _ bw635)
  refine gx_abs (fun G eG => ?_)
  obtain ⟨K82, eK82⟩ : ∃ K : Int32 → Int32 → Int32 → Int32 → Int32 → (Nat → Int32) → Prop, K = fun v6 v7 v8 f_thrown f_ready f_samples => ∀ (H : Heap) (locs : List Loc) (ls : Array Slot), va_P (dC, dI) vwCl (wdMd_paint q_this q_samples r_isGiven r_gives r_colours r_many r_group r_row r_channelOf r_spreads r_boxMany r_there r_groupMany r_means r_sums r_palette r_has r_takers r_takenSums r_order r_before r_roundSums r_carried c_samples n_samples f_thrown f_width f_height f_different f_groups f_rowSize f_ready f_size f_rounds f_samples) H → va_D A (wdMd_paint q_this q_samples r_isGiven r_gives r_colours r_many r_group r_row r_channelOf r_spreads r_boxMany r_there r_groupMany r_means r_sums r_palette r_has r_takers r_takenSums r_order r_before r_roundSums r_carried c_samples n_samples f_thrown f_width f_height f_different f_groups f_rowSize f_ready f_size f_rounds f_samples) → va_S A s.heap H locs → lv_has ls 10 [(0, .ref q_this), (4, .int x4), (5, .int x5), (6, .int v6), (7, .int v7), (8, .int v8)] → G H locs 0 0 (F0 m 82 ls []) := ⟨_, rfl⟩
  obtain ⟨K92, eK92⟩ : ∃ K : Int32 → Int32 → Int32 → Int32 → Int32 → Int32 → (Nat → Int32) → Prop, K = fun v6 v7 v8 v9 f_thrown f_ready f_samples => ∀ (H : Heap) (locs : List Loc) (ls : Array Slot), va_P (dC, dI) vwCl (wdMd_paint q_this q_samples r_isGiven r_gives r_colours r_many r_group r_row r_channelOf r_spreads r_boxMany r_there r_groupMany r_means r_sums r_palette r_has r_takers r_takenSums r_order r_before r_roundSums r_carried c_samples n_samples f_thrown f_width f_height f_different f_groups f_rowSize f_ready f_size f_rounds f_samples) H → va_D A (wdMd_paint q_this q_samples r_isGiven r_gives r_colours r_many r_group r_row r_channelOf r_spreads r_boxMany r_there r_groupMany r_means r_sums r_palette r_has r_takers r_takenSums r_order r_before r_roundSums r_carried c_samples n_samples f_thrown f_width f_height f_different f_groups f_rowSize f_ready f_size f_rounds f_samples) → va_S A s.heap H locs → lv_has ls 10 [(0, .ref q_this), (4, .int x4), (5, .int x5), (6, .int v6), (7, .int v7), (8, .int v8), (9, .int v9)] → G H locs 0 0 (F0 m 92 ls []) := ⟨_, rfl⟩
  have j77 : ∀ (v6 : Int32) (s0 : Int32) (f_thrown : Int32) (f_ready : Int32) (f_samples : Nat → Int32), vcMd_paint_77 n_samples f_width f_height f_different f_groups f_rowSize f_size f_rounds x1 x2 x3 x4 x5 K82 K92 post v6 s0 f_thrown f_ready f_samples → ∀ (H : Heap) (locs : List Loc) (ls : Array Slot), va_P (dC, dI) vwCl (wdMd_paint q_this q_samples r_isGiven r_gives r_colours r_many r_group r_row r_channelOf r_spreads r_boxMany r_there r_groupMany r_means r_sums r_palette r_has r_takers r_takenSums r_order r_before r_roundSums r_carried c_samples n_samples f_thrown f_width f_height f_different f_groups f_rowSize f_ready f_size f_rounds f_samples) H → va_D A (wdMd_paint q_this q_samples r_isGiven r_gives r_colours r_many r_group r_row r_channelOf r_spreads r_boxMany r_there r_groupMany r_means r_sums r_palette r_has r_takers r_takenSums r_order r_before r_roundSums r_carried c_samples n_samples f_thrown f_width f_height f_different f_groups f_rowSize f_ready f_size f_rounds f_samples) → va_S A s.heap H locs → lv_has ls 10 [(0, .ref q_this), (4, .int x4), (5, .int x5), (6, .int v6)] → G H locs 0 0 (F0 m 77 ls [.int s0]) := by
    intro v6 s0 f_thrown f_ready f_samples hv H locs ls hP hD hS hl
    rw [eG]
    unfold vcMd_paint_77 at hv
    refine lv_istore (lv' := [(7, .int s0), (0, .ref q_this), (4, .int x4), (5, .int x5), (6, .int v6)]) hx hb dMd_paint_77 hl (by decide) rfl (fun ls hl => ?_)
    refine lv_iconst (v := 0) hx hb dMd_paint_79 (by decide) ?_
    refine lv_istore (lv' := [(8, .int 0), (7, .int s0), (0, .ref q_this), (4, .int x4), (5, .int x5), (6, .int v6)]) hx hb dMd_paint_80 hl (by decide) rfl (fun ls hl => ?_)
    rw [eK82, eG] at hv
    exact hv _ _ _ hP hD hS (lv_sub hl [2, 3, 4, 5, 1, 0] rfl)
  rw [eG] at j77
  have j23 : ∀ (s0 : Int32), vcMd_paint_23 n_samples f_width f_height f_different f_groups f_rowSize f_size f_rounds x1 x2 x3 x4 x5 K82 K92 post s0 f_thrown f_ready f_samples → ∀ (H : Heap) (locs : List Loc) (ls : Array Slot), va_P (dC, dI) vwCl (wdMd_paint q_this q_samples r_isGiven r_gives r_colours r_many r_group r_row r_channelOf r_spreads r_boxMany r_there r_groupMany r_means r_sums r_palette r_has r_takers r_takenSums r_order r_before r_roundSums r_carried c_samples n_samples f_thrown f_width f_height f_different f_groups f_rowSize f_ready f_size f_rounds f_samples) H → va_D A (wdMd_paint q_this q_samples r_isGiven r_gives r_colours r_many r_group r_row r_channelOf r_spreads r_boxMany r_there r_groupMany r_means r_sums r_palette r_has r_takers r_takenSums r_order r_before r_roundSums r_carried c_samples n_samples f_thrown f_width f_height f_different f_groups f_rowSize f_ready f_size f_rounds f_samples) → va_S A s.heap H locs → lv_has ls 10 [(0, .ref q_this), (1, .int x1), (2, .int x2), (3, .int x3), (4, .int x4), (5, .int x5)] → G H locs 0 0 (F0 m 23 ls [.int s0, .ref q_this]) := by
    intro s0 hv H locs ls hP hD hS hl
    rw [eG]
    unfold vcMd_paint_23 at hv
    refine va_put (D := (dC, dI)) (ci := 8) (v := .int s0) (ty := .int) (C := RMd) (T := TMd) (N := 31) hx hb hB hiMd tMd tMd_ok nMd hown hK hP hD hS 0 rfl rfl 0 (by decide) hL85 (fun _ h9 => h9) rfl (by decide +kernel) rfl rfl (Nat.le_of_ble_eq_true rfl) dMd_paint_23 (fun H locs hP hD hS => ?_)
    have hP : va_P (dC, dI) vwCl (wdMd_paint q_this q_samples r_isGiven r_gives r_colours r_many r_group r_row r_channelOf r_spreads r_boxMany r_there r_groupMany r_means r_sums r_palette r_has r_takers r_takenSums r_order r_before r_roundSums r_carried c_samples n_samples s0 f_width f_height f_different f_groups f_rowSize f_ready f_size f_rounds f_samples) H := hP
    have hD : va_D A (wdMd_paint q_this q_samples r_isGiven r_gives r_colours r_many r_group r_row r_channelOf r_spreads r_boxMany r_there r_groupMany r_means r_sums r_palette r_has r_takers r_takenSums r_order r_before r_roundSums r_carried c_samples n_samples s0 f_width f_height f_different f_groups f_rowSize f_ready f_size f_rounds f_samples) := hD
    refine lv_aload_n hx hb dMd_paint_26 rfl (lv_at hl 0 rfl) ?_
    refine va_get (D := (dC, dI)) (ci := 8) (v := .int s0) (C := RMd) (T := TMd) (N := 31) hx hb hB hiMd hown hK hP 0 rfl rfl 0 (by decide) hL85 (fun _ h9 => h9) rfl dMd_paint_27 ?_
    refine lv_if_le (tgt := 35) hx hb dMd_paint_30 (by decide) (fun c_1 => ?_) (fun c_1 => ?_)
    · have hv := hv.1 c_1
      refine lv_aload_n hx hb dMd_paint_35 rfl (lv_at hl 0 rfl) ?_
      refine va_get (D := (dC, dI)) (ci := 8) (v := .int f_width) (C := RMd) (T := TMd) (N := 31) hx hb hB hiMd hown hK hP 0 rfl rfl 1 (by decide) hL78 (fun _ h9 => h9) rfl dMd_paint_36 ?_
      refine lv_iload_n hx hb dMd_paint_39 rfl (lv_at hl 2 rfl) ?_
      refine lv_imul hx hb dMd_paint_40 ?_
      refine lv_iload_n hx hb dMd_paint_41 rfl (lv_at hl 1 rfl) ?_
      refine lv_iadd hx hb dMd_paint_42 ?_
      refine lv_topi (fun v6_2 ev6_2 => ?_)
      have hv := hv v6_2 ev6_2
      refine lv_istore (lv' := [(6, .int v6_2), (0, .ref q_this), (1, .int x1), (2, .int x2), (3, .int x3), (4, .int x4), (5, .int x5)]) hx hb dMd_paint_43 hl (by decide) rfl (fun ls hl => ?_)
      refine lv_aload_n hx hb dMd_paint_45 rfl (lv_at hl 1 rfl) ?_
      refine va_get (D := (dC, dI)) (ci := 8) (v := .int f_width) (C := RMd) (T := TMd) (N := 31) hx hb hB hiMd hown hK hP 0 rfl rfl 1 (by decide) hL78 (fun _ h9 => h9) rfl dMd_paint_46 ?_
      refine lv_aload_n hx hb dMd_paint_49 rfl (lv_at hl 1 rfl) ?_
      refine va_get (D := (dC, dI)) (ci := 8) (v := .int f_height) (C := RMd) (T := TMd) (N := 31) hx hb hB hiMd hown hK hP 0 rfl rfl 2 (by decide) hL82 (fun _ h9 => h9) rfl dMd_paint_50 ?_
      refine lv_imul hx hb dMd_paint_53 ?_
      refine lv_iload hx hb dMd_paint_54 (lv_at hl 0 rfl) ?_
      refine lv_isub hx hb dMd_paint_56 ?_
      refine lv_iload_n hx hb dMd_paint_57 rfl (lv_at hl 4 rfl) ?_
      refine lv_icmp_ge (tgt := 76) hx hb dMd_paint_58 (by decide) (fun c_3 => ?_) (fun c_3 => ?_)
      · have hv := hv.1 c_3
        refine lv_iload_n hx hb dMd_paint_76 rfl (lv_at hl 4 rfl) ?_
        exact j77 v6_2 x3 s0 f_ready f_samples hv _ _ _ hP hD hS (lv_sub hl [1, 5, 6, 0] rfl)
      · have hv := hv.2 c_3
        refine lv_aload_n hx hb dMd_paint_61 rfl (lv_at hl 1 rfl) ?_
        refine va_get (D := (dC, dI)) (ci := 8) (v := .int f_width) (C := RMd) (T := TMd) (N := 31) hx hb hB hiMd hown hK hP 0 rfl rfl 1 (by decide) hL78 (fun _ h9 => h9) rfl dMd_paint_62 ?_
        refine lv_aload_n hx hb dMd_paint_65 rfl (lv_at hl 1 rfl) ?_
        refine va_get (D := (dC, dI)) (ci := 8) (v := .int f_height) (C := RMd) (T := TMd) (N := 31) hx hb hB hiMd hown hK hP 0 rfl rfl 2 (by decide) hL82 (fun _ h9 => h9) rfl dMd_paint_66 ?_
        refine lv_imul hx hb dMd_paint_69 ?_
        refine lv_iload hx hb dMd_paint_70 (lv_at hl 0 rfl) ?_
        refine lv_isub hx hb dMd_paint_72 ?_
        refine lv_goto (tgt := 77) hx hb dMd_paint_73 (by decide) ?_
        exact j77 v6_2 ((f_width * f_height) - v6_2) s0 f_ready f_samples hv _ _ _ hP hD hS (lv_sub hl [1, 5, 6, 0] rfl)
    · have hv := hv.2 c_1
      refine lv_iconst (v := 0) hx hb dMd_paint_33 (by decide) ?_
      exact W.iret (v := 0) hx hb hr (fun t ht hW => ⟨⟨_, (s0, f_ready, f_samples), rfl, hv, by rw [ht]; exact hP, hD⟩, hS.F ht⟩) hS.2.2 dMd_paint_34
  rw [eG] at j23
  unfold wpMd_paint at hw
  have hv := hw K82 K92
  have hv := hv (by
    intro v6 v7 v8 f_thrown f_ready f_samples hv
    rw [eK82]
    intro H locs ls hP hD hS hl
    rw [eG]
    unfold vcMd_paint_82 at hv
    refine lv_iload hx hb dMd_paint_82 (lv_at hl 5 rfl) ?_
    refine lv_iload hx hb dMd_paint_84 (lv_at hl 4 rfl) ?_
    refine lv_icmp_ge (tgt := 150) hx hb dMd_paint_86 (by decide) (fun c_4 => ?_) (fun c_4 => ?_)
    · have hv := hv.1 c_4
      refine lv_aload_n hx hb dMd_paint_150 rfl (lv_at hl 0 rfl) ?_
      refine lv_iconst (v := 0) hx hb dMd_paint_151 (by decide) ?_
      refine va_put (D := (dC, dI)) (ci := 8) (v := .int 0) (ty := .boolean) (C := RMd) (T := TMd) (N := 31) hx hb hB hiMd tMd tMd_ok nMd hown hK hP hD hS 0 rfl rfl 20 (by decide) hL100 (fun _ h9 => h9) rfl (by decide +kernel) rfl rfl (Nat.le_of_ble_eq_true rfl) dMd_paint_152 (fun H locs hP hD hS => ?_)
      have hP : va_P (dC, dI) vwCl (wdMd_paint q_this q_samples r_isGiven r_gives r_colours r_many r_group r_row r_channelOf r_spreads r_boxMany r_there r_groupMany r_means r_sums r_palette r_has r_takers r_takenSums r_order r_before r_roundSums r_carried c_samples n_samples f_thrown f_width f_height f_different f_groups f_rowSize 0 f_size f_rounds f_samples) H := hP
      have hD : va_D A (wdMd_paint q_this q_samples r_isGiven r_gives r_colours r_many r_group r_row r_channelOf r_spreads r_boxMany r_there r_groupMany r_means r_sums r_palette r_has r_takers r_takenSums r_order r_before r_roundSums r_carried c_samples n_samples f_thrown f_width f_height f_different f_groups f_rowSize 0 f_size f_rounds f_samples) := hD
      refine lv_iload hx hb dMd_paint_155 (lv_at hl 4 rfl) ?_
      exact W.iret (v := v7) hx hb hr (fun t ht hW => ⟨⟨_, (f_thrown, 0, f_samples), rfl, hv, by rw [ht]; exact hP, hD⟩, hS.F ht⟩) hS.2.2 dMd_paint_157
    · have hv := hv.2 c_4
      refine lv_iconst (v := 0) hx hb dMd_paint_89 (by decide) ?_
      refine lv_istore (lv' := [(9, .int 0), (0, .ref q_this), (4, .int x4), (5, .int x5), (6, .int v6), (7, .int v7), (8, .int v8)]) hx hb dMd_paint_90 hl (by decide) rfl (fun ls hl => ?_)
      rw [eK92, eG] at hv
      exact hv _ _ _ hP hD hS (lv_sub hl [1, 2, 3, 4, 5, 6, 0] rfl))
  have hv := hv (by
    intro v6 v7 v8 v9 f_thrown f_ready f_samples hv
    rw [eK92]
    intro H locs ls hP hD hS hl
    rw [eG]
    unfold vcMd_paint_92 at hv
    refine lv_iload hx hb dMd_paint_92 (lv_at hl 6 rfl) ?_
    refine lv_iconst (v := 4) hx hb dMd_paint_94 (by decide) ?_
    refine lv_icmp_ge (tgt := 144) hx hb dMd_paint_95 (by decide) (fun c_5 => ?_) (fun c_5 => ?_)
    · have hv := hv.1 c_5
      refine lv_iinc (v := v8 + 1) (lv' := [(8, .int (v8 + 1)), (0, .ref q_this), (4, .int x4), (5, .int x5), (6, .int v6), (7, .int v7), (9, .int v9)]) hx hb dMd_paint_144 hl (k := 5) rfl rfl (by decide) rfl (fun ls hl => ?_)
      refine lv_goto (tgt := 82) hx hb dMd_paint_147 (by decide) ?_
      rw [eK82, eG] at hv
      exact hv _ _ _ hP hD hS (lv_sub hl [1, 2, 3, 4, 5, 0] rfl)
    · have hv := hv.2 c_5
      refine lv_aload_n hx hb dMd_paint_98 rfl (lv_at hl 0 rfl) ?_
      refine va_get (D := (dC, dI)) (ci := 8) (v := .ref q_samples) (C := RMd) (T := TMd) (N := 31) hx hb hB hiMd hown hK hP 0 rfl rfl 3 (by decide) hL7 (fun _ h9 => h9) rfl dMd_paint_99 ?_
      refine lv_iconst (v := 4) hx hb dMd_paint_102 (by decide) ?_
      refine lv_iload hx hb dMd_paint_103 (lv_at hl 3 rfl) ?_
      refine lv_iload hx hb dMd_paint_105 (lv_at hl 5 rfl) ?_
      refine lv_iadd hx hb dMd_paint_107 ?_
      refine lv_imul hx hb dMd_paint_108 ?_
      refine lv_iload hx hb dMd_paint_109 (lv_at hl 6 rfl) ?_
      refine lv_iadd hx hb dMd_paint_111 ?_
      refine lv_iload hx hb dMd_paint_112 (lv_at hl 1 rfl) ?_
      refine lv_bipush (v := 24) hx hb dMd_paint_114 (by decide) ?_
      refine lv_bipush (v := 8) hx hb dMd_paint_116 (by decide) ?_
      refine lv_iload hx hb dMd_paint_118 (lv_at hl 6 rfl) ?_
      refine lv_imul hx hb dMd_paint_120 ?_
      refine lv_isub hx hb dMd_paint_121 ?_
      refine lv_ishr hx hb dMd_paint_122 ?_
      refine lv_sipush (v := 255) hx hb dMd_paint_123 (by decide) ?_
      refine lv_iand hx hb dMd_paint_126 ?_
      refine lv_iload hx hb dMd_paint_127 (lv_at hl 2 rfl) ?_
      refine lv_iload hx hb dMd_paint_129 (lv_at hl 5 rfl) ?_
      refine lv_imul hx hb dMd_paint_131 ?_
      refine lv_iadd hx hb dMd_paint_132 ?_
      refine lv_sipush (v := 255) hx hb dMd_paint_133 (by decide) ?_
      refine lv_iand hx hb dMd_paint_136 ?_
      obtain ⟨h_6, hv⟩ := hv
      refine va_iast hx hb hK hP hD hS 1 0 rfl rfl h_6 dMd_paint_137 (fun H locs hP hD hS => ?_)
      have hP : va_P (dC, dI) vwCl (wdMd_paint q_this q_samples r_isGiven r_gives r_colours r_many r_group r_row r_channelOf r_spreads r_boxMany r_there r_groupMany r_means r_sums r_palette r_has r_takers r_takenSums r_order r_before r_roundSums r_carried c_samples n_samples f_thrown f_width f_height f_different f_groups f_rowSize f_ready f_size f_rounds (upd f_samples ((4 * (v6 + v8)) + v9).toNatClampNeg ((((x4 >>> ((24 - (8 * v9)) &&& 31)) &&& 255) + (x5 * v8)) &&& 255))) H := hP
      have hD : va_D A (wdMd_paint q_this q_samples r_isGiven r_gives r_colours r_many r_group r_row r_channelOf r_spreads r_boxMany r_there r_groupMany r_means r_sums r_palette r_has r_takers r_takenSums r_order r_before r_roundSums r_carried c_samples n_samples f_thrown f_width f_height f_different f_groups f_rowSize f_ready f_size f_rounds (upd f_samples ((4 * (v6 + v8)) + v9).toNatClampNeg ((((x4 >>> ((24 - (8 * v9)) &&& 31)) &&& 255) + (x5 * v8)) &&& 255))) := hD
      refine lv_iinc (v := v9 + 1) (lv' := [(9, .int (v9 + 1)), (0, .ref q_this), (4, .int x4), (5, .int x5), (6, .int v6), (7, .int v7), (8, .int v8)]) hx hb dMd_paint_138 hl (k := 6) rfl rfl (by decide) rfl (fun ls hl => ?_)
      refine lv_goto (tgt := 92) hx hb dMd_paint_141 (by decide) ?_
      rw [eK92, eG] at hv
      exact hv _ _ _ hP hD hS (lv_sub hl [1, 2, 3, 4, 5, 6, 0] rfl))
  rw [eG]
  refine lv_aload_n hx hb dMd_paint_0 rfl (lv_at hl 0 rfl) ?_
  refine lv_aload_n hx hb dMd_paint_1 rfl (lv_at hl 0 rfl) ?_
  refine lv_iload_n hx hb dMd_paint_2 rfl (lv_at hl 1 rfl) ?_
  refine lv_iload_n hx hb dMd_paint_3 rfl (lv_at hl 2 rfl) ?_
  refine gx_ri (va_runV (As := [.int x1, .int x2]) (rest := [.ref q_this]) ⟨hx, hb, hml, hown, hB⟩ (metMd_isPlace l dC dI q_this q_samples r_isGiven r_gives r_colours r_many r_group r_row r_channelOf r_spreads r_boxMany r_there r_groupMany r_means r_sums r_palette r_has r_takers r_takenSums r_order r_before r_roundSums r_carried s.heap.size f_thrown f_width f_height f_different f_groups f_rowSize f_ready f_size f_rounds x1 x2 hv) (cwV 2 hB (gx_gV bw685 bw686 bw24 bw53 bw687) rfl rfl rfl (by decide +kernel) ⟨(Nat.le_of_ble_eq_true rfl), (Nat.le_of_ble_eq_true rfl)⟩) (gx_rpreV (ci := 8) (hP.sub (ws' := (wdMd_isPlace q_this q_samples r_isGiven r_gives r_colours r_many r_group r_row r_channelOf r_spreads r_boxMany r_there r_groupMany r_means r_sums r_palette r_has r_takers r_takenSums r_order r_before r_roundSums r_carried f_thrown f_width f_height f_different f_groups f_rowSize f_ready f_size f_rounds)) [0] rfl) (hK.sub (tys' := []) [] rfl) hZ hS hA rfl rfl) rfl rfl hl.1 rfl (lv_room (Nat.le_of_ble_eq_true rfl)) dMd_paint_4 ⟨(Nat.le_of_ble_eq_true rfl), (Nat.le_of_ble_eq_true rfl)⟩) hP hS hA (fun r_8 H locs hv hP hS => ?_)
  refine lv_if_ne (tgt := 14) hx hb dMd_paint_7 (by decide) (fun c_10 => ?_) (fun c_10 => ?_)
  · have hv := hv.1 c_10
    refine lv_iload_n hx hb dMd_paint_14 rfl (lv_at hl 3 rfl) ?_
    refine lv_if_ge (tgt := 22) hx hb dMd_paint_15 (by decide) (fun c_11 => ?_) (fun c_11 => ?_)
    · have hv := hv.1 c_11
      refine lv_iconst (v := 0) hx hb dMd_paint_22 (by decide) ?_
      exact j23 0 hv _ _ _ hP hD hS (lv_sub hl [0, 1, 2, 3, 4, 5] rfl)
    · have hv := hv.2 c_11
      refine lv_iconst (v := 2) hx hb dMd_paint_18 (by decide) ?_
      refine lv_goto (tgt := 23) hx hb dMd_paint_19 (by decide) ?_
      exact j23 2 hv _ _ _ hP hD hS (lv_sub hl [0, 1, 2, 3, 4, 5] rfl)
  · have hv := hv.2 c_10
    refine lv_iconst (v := 1) hx hb dMd_paint_10 (by decide) ?_
    refine lv_goto (tgt := 23) hx hb dMd_paint_11 (by decide) ?_
    exact j23 1 hv _ _ _ hP hD hS (lv_sub hl [0, 1, 2, 3, 4, 5] rfl)
abbrev wdMd_at (q_this q_samples r_isGiven r_gives r_colours r_many r_group r_row r_channelOf r_spreads r_boxMany r_there r_groupMany r_means r_sums r_palette r_has r_takers r_takenSums r_order r_before r_roundSums r_carried : Nat) (c_samples : ClassId) (n_samples : Nat) (f_thrown : Int32) (f_width : Int32) (f_height : Int32) (f_different : Int32) (f_groups : Int32) (f_rowSize : Int32) (f_ready : Int32) (f_size : Int32) (f_rounds : Int32) (f_samples : Nat → Int32) : va_W := [(q_this, .inr (8, [.int f_thrown, .int f_width, .int f_height, .ref q_samples, .ref r_isGiven, .ref r_gives, .int f_different, .ref r_colours, .ref r_many, .ref r_group, .int f_groups, .ref r_row, .int f_rowSize, .ref r_channelOf, .ref r_spreads, .ref r_boxMany, .ref r_there, .ref r_groupMany, .ref r_means, .ref r_sums, .int f_ready, .int f_size, .ref r_palette, .ref r_has, .ref r_takers, .ref r_takenSums, .ref r_order, .ref r_before, .int f_rounds, .ref r_roundSums, .ref r_carried])), (q_samples, .inl (c_samples, n_samples, .inl f_samples))]
set_option maxHeartbeats 4000000 in
set_option maxRecDepth 100000 in
theorem metMd_at (l : Launch) (dC : Nat → ClassId) (dI : Nat → Nat → Nat) (q_this q_samples r_isGiven r_gives r_colours r_many r_group r_row r_channelOf r_spreads r_boxMany r_there r_groupMany r_means r_sums r_palette r_has r_takers r_takenSums r_order r_before r_roundSums r_carried : Nat) (c_samples : ClassId) (n_samples : Nat) (sz : Nat) (f_thrown : Int32) (f_width : Int32) (f_height : Int32) (f_different : Int32) (f_groups : Int32) (f_rowSize : Int32) (f_ready : Int32) (f_size : Int32) (f_rounds : Int32) (f_samples : Nat → Int32) (x1 : Int32) (x2 : Int32) {post : Int32 → Int32 → Prop} (hw : wpMd_at n_samples f_thrown f_width f_height f_different f_groups f_rowSize f_ready f_size f_rounds f_samples x1 x2 post) : Met l yMd_at (.code yMd_at bMd_at 4 (some .int) :: BIG) ({ frames := 1, cells := 0, slots := 0, locals := 22 }) (va_Pc [.ref q_this, .int x1, .int x2] (gx_pre (dC, dI) vwCl (wdMd_at q_this q_samples r_isGiven r_gives r_colours r_many r_group r_row r_channelOf r_spreads r_boxMany r_there r_groupMany r_means r_sums r_palette r_has r_takers r_takenSums r_order r_before r_roundSums r_carried c_samples n_samples f_thrown f_width f_height f_different f_groups f_rowSize f_ready f_size f_rounds f_samples) [(c_samples, .int)] sz)) (va_Qi (fun r (u : Int32) => post r u) (gx_B (dC, dI) vwCl (va_A (wdMd_at q_this q_samples r_isGiven r_gives r_colours r_many r_group r_row r_channelOf r_spreads r_boxMany r_there r_groupMany r_means r_sums r_palette r_has r_takers r_takenSums r_order r_before r_roundSums r_carried c_samples n_samples f_thrown f_width f_height f_different f_groups f_rowSize f_ready f_size f_rounds f_samples) sz) (fun (u : Int32) => (wdMd_at q_this q_samples r_isGiven r_gives r_colours r_many r_group r_row r_channelOf r_spreads r_boxMany r_there r_groupMany r_means r_sums r_palette r_has r_takers r_takenSums r_order r_before r_roundSums r_carried c_samples n_samples u f_width f_height f_different f_groups f_rowSize f_ready f_size f_rounds f_samples))) (va_A (wdMd_at q_this q_samples r_isGiven r_gives r_colours r_many r_group r_row r_channelOf r_spreads r_boxMany r_there r_groupMany r_means r_sums r_palette r_has r_takers r_takenSums r_order r_before r_roundSums r_carried c_samples n_samples f_thrown f_width f_height f_different f_groups f_rowSize f_ready f_size f_rounds f_samples) sz)) 0 0 (va_A (wdMd_at q_this q_samples r_isGiven r_gives r_colours r_many r_group r_row r_channelOf r_spreads r_boxMany r_there r_groupMany r_means r_sums r_palette r_has r_takers r_takenSums r_order r_before r_roundSums r_carried c_samples n_samples f_thrown f_width f_height f_different f_groups f_rowSize f_ready f_size f_rounds f_samples) sz) := by
  refine Met.ofW (cc := bMd_at) (maxL := 4) (ret := (some .int)) (by decide) rfl ?_
  intro p e s m args below meth c s₁ B hml hv
  obtain ⟨rfl, hsz, hP, hK, hD0, hZ⟩ := hv
  have hx := B.exec
  have hb := B.bytes
  have hr := B.returns
  have hts := atoms_spec (ws := (.code yMd_at bMd_at 4 (some .int) :: BIG)) B.pre
  have hB : ∀ w ∈ BIG, w.before _ s = true := fun w h => hts w (List.mem_cons_of_mem _ h)
  have hown : s.vm.findClass RMd = some m.cls := findClass_of_methodNamed B.named
  have hlocks := B.notSynchronized
  subst hsz
  have hD := hD0.self (sz := s.heap.size)
  generalize hAe : va_A (wdMd_at q_this q_samples r_isGiven r_gives r_colours r_many r_group r_row r_channelOf r_spreads r_boxMany r_there r_groupMany r_means r_sums r_palette r_has r_takers r_takenSums r_order r_before r_roundSums r_carried c_samples n_samples f_thrown f_width f_height f_different f_groups f_rowSize f_ready f_size f_rounds f_samples) s.heap.size = A at hD hZ ⊢
  have hA : ∀ q : Nat, s.heap.size ≤ q → A q := fun q h => by rw [← hAe]; exact Or.inr h
  have hS : va_S A s.heap s.heap [] := va_S.rf
  have hl := lv_entry ([.ref q_this, .int x1, .int x2]) (n := 4) (Nat.le_of_ble_eq_true rfl)
  rw [lg_entry_eq]
  generalize (lg_sl ([.ref q_this, .int x1, .int x2]) ++ List.replicate (4 - (lg_sl ([.ref q_this, .int x1, .int x2])).length) Slot.unset).toArray = ls at hl ⊢
  have hl : lv_has ls 4 [(0, .ref q_this), (1, .int x1), (2, .int x2)] := hl
  have hL7 := (hB _ bw618)
  have hL78 := (hB _ bw616)
  have hL85 := (hB _ bw615)
  refine gx_abs (fun G eG => ?_)
  have j82 : ∀ (s0 : Int32) (f_thrown : Int32), vcMd_at_82 n_samples f_width f_height f_different f_groups f_rowSize f_ready f_size f_rounds f_samples x1 x2 post s0 f_thrown → ∀ (H : Heap) (locs : List Loc) (ls : Array Slot), va_P (dC, dI) vwCl (wdMd_at q_this q_samples r_isGiven r_gives r_colours r_many r_group r_row r_channelOf r_spreads r_boxMany r_there r_groupMany r_means r_sums r_palette r_has r_takers r_takenSums r_order r_before r_roundSums r_carried c_samples n_samples f_thrown f_width f_height f_different f_groups f_rowSize f_ready f_size f_rounds f_samples) H → va_D A (wdMd_at q_this q_samples r_isGiven r_gives r_colours r_many r_group r_row r_channelOf r_spreads r_boxMany r_there r_groupMany r_means r_sums r_palette r_has r_takers r_takenSums r_order r_before r_roundSums r_carried c_samples n_samples f_thrown f_width f_height f_different f_groups f_rowSize f_ready f_size f_rounds f_samples) → va_S A s.heap H locs → lv_has ls 4 [] → G H locs 0 0 (F0 m 82 ls [.int s0]) := by
    intro s0 f_thrown hv H locs ls hP hD hS hl
    rw [eG]
    unfold vcMd_at_82 at hv
    exact W.iret (v := s0) hx hb hr (fun t ht hW => ⟨⟨_, f_thrown, rfl, hv, by rw [ht]; exact hP, hD⟩, hS.F ht⟩) hS.2.2 dMd_at_82
  rw [eG] at j82
  have j15 : ∀ (s0 : Int32), vcMd_at_15 n_samples f_width f_height f_different f_groups f_rowSize f_ready f_size f_rounds f_samples x1 x2 post s0 f_thrown → ∀ (H : Heap) (locs : List Loc) (ls : Array Slot), va_P (dC, dI) vwCl (wdMd_at q_this q_samples r_isGiven r_gives r_colours r_many r_group r_row r_channelOf r_spreads r_boxMany r_there r_groupMany r_means r_sums r_palette r_has r_takers r_takenSums r_order r_before r_roundSums r_carried c_samples n_samples f_thrown f_width f_height f_different f_groups f_rowSize f_ready f_size f_rounds f_samples) H → va_D A (wdMd_at q_this q_samples r_isGiven r_gives r_colours r_many r_group r_row r_channelOf r_spreads r_boxMany r_there r_groupMany r_means r_sums r_palette r_has r_takers r_takenSums r_order r_before r_roundSums r_carried c_samples n_samples f_thrown f_width f_height f_different f_groups f_rowSize f_ready f_size f_rounds f_samples) → va_S A s.heap H locs → lv_has ls 4 [(0, .ref q_this), (1, .int x1), (2, .int x2)] → G H locs 0 0 (F0 m 15 ls [.int s0, .ref q_this]) := by
    intro s0 hv H locs ls hP hD hS hl
    rw [eG]
    unfold vcMd_at_15 at hv
    refine va_put (D := (dC, dI)) (ci := 8) (v := .int s0) (ty := .int) (C := RMd) (T := TMd) (N := 31) hx hb hB hiMd tMd tMd_ok nMd hown hK hP hD hS 0 rfl rfl 0 (by decide) hL85 (fun _ h9 => h9) rfl (by decide +kernel) rfl rfl (Nat.le_of_ble_eq_true rfl) dMd_at_15 (fun H locs hP hD hS => ?_)
    have hP : va_P (dC, dI) vwCl (wdMd_at q_this q_samples r_isGiven r_gives r_colours r_many r_group r_row r_channelOf r_spreads r_boxMany r_there r_groupMany r_means r_sums r_palette r_has r_takers r_takenSums r_order r_before r_roundSums r_carried c_samples n_samples s0 f_width f_height f_different f_groups f_rowSize f_ready f_size f_rounds f_samples) H := hP
    have hD : va_D A (wdMd_at q_this q_samples r_isGiven r_gives r_colours r_many r_group r_row r_channelOf r_spreads r_boxMany r_there r_groupMany r_means r_sums r_palette r_has r_takers r_takenSums r_order r_before r_roundSums r_carried c_samples n_samples s0 f_width f_height f_different f_groups f_rowSize f_ready f_size f_rounds f_samples) := hD
    refine lv_iconst (v := 4) hx hb dMd_at_18 (by decide) ?_
    refine lv_aload_n hx hb dMd_at_19 rfl (lv_at hl 0 rfl) ?_
    refine va_get (D := (dC, dI)) (ci := 8) (v := .int f_width) (C := RMd) (T := TMd) (N := 31) hx hb hB hiMd hown hK hP 0 rfl rfl 1 (by decide) hL78 (fun _ h9 => h9) rfl dMd_at_20 ?_
    refine lv_iload_n hx hb dMd_at_23 rfl (lv_at hl 2 rfl) ?_
    refine lv_imul hx hb dMd_at_24 ?_
    refine lv_iload_n hx hb dMd_at_25 rfl (lv_at hl 1 rfl) ?_
    refine lv_iadd hx hb dMd_at_26 ?_
    refine lv_imul hx hb dMd_at_27 ?_
    refine lv_topi (fun v3_1 ev3_1 => ?_)
    have hv := hv v3_1 ev3_1
    refine lv_istore_n (lv' := [(3, .int v3_1), (0, .ref q_this), (1, .int x1), (2, .int x2)]) hx hb dMd_at_28 rfl hl (by decide) rfl (fun ls hl => ?_)
    refine lv_aload_n hx hb dMd_at_29 rfl (lv_at hl 1 rfl) ?_
    refine va_get (D := (dC, dI)) (ci := 8) (v := .int s0) (C := RMd) (T := TMd) (N := 31) hx hb hB hiMd hown hK hP 0 rfl rfl 0 (by decide) hL85 (fun _ h9 => h9) rfl dMd_at_30 ?_
    refine lv_if_le (tgt := 40) hx hb dMd_at_33 (by decide) (fun c_2 => ?_) (fun c_2 => ?_)
    · have hv := hv.1 c_2
      refine lv_aload_n hx hb dMd_at_40 rfl (lv_at hl 1 rfl) ?_
      refine va_get (D := (dC, dI)) (ci := 8) (v := .ref q_samples) (C := RMd) (T := TMd) (N := 31) hx hb hB hiMd hown hK hP 0 rfl rfl 3 (by decide) hL7 (fun _ h9 => h9) rfl dMd_at_41 ?_
      refine lv_iload_n hx hb dMd_at_44 rfl (lv_at hl 0 rfl) ?_
      obtain ⟨h_3, hv⟩ := hv
      refine va_iald hx hb hK hP 1 0 rfl rfl h_3 dMd_at_45 ?_
      refine lv_bipush (v := 24) hx hb dMd_at_46 (by decide) ?_
      refine lv_ishl hx hb dMd_at_48 ?_
      refine lv_aload_n hx hb dMd_at_49 rfl (lv_at hl 1 rfl) ?_
      refine va_get (D := (dC, dI)) (ci := 8) (v := .ref q_samples) (C := RMd) (T := TMd) (N := 31) hx hb hB hiMd hown hK hP 0 rfl rfl 3 (by decide) hL7 (fun _ h9 => h9) rfl dMd_at_50 ?_
      refine lv_iload_n hx hb dMd_at_53 rfl (lv_at hl 0 rfl) ?_
      refine lv_iconst (v := 1) hx hb dMd_at_54 (by decide) ?_
      refine lv_iadd hx hb dMd_at_55 ?_
      obtain ⟨h_4, hv⟩ := hv
      refine va_iald hx hb hK hP 1 0 rfl rfl h_4 dMd_at_56 ?_
      refine lv_bipush (v := 16) hx hb dMd_at_57 (by decide) ?_
      refine lv_ishl hx hb dMd_at_59 ?_
      refine lv_ior hx hb dMd_at_60 ?_
      refine lv_aload_n hx hb dMd_at_61 rfl (lv_at hl 1 rfl) ?_
      refine va_get (D := (dC, dI)) (ci := 8) (v := .ref q_samples) (C := RMd) (T := TMd) (N := 31) hx hb hB hiMd hown hK hP 0 rfl rfl 3 (by decide) hL7 (fun _ h9 => h9) rfl dMd_at_62 ?_
      refine lv_iload_n hx hb dMd_at_65 rfl (lv_at hl 0 rfl) ?_
      refine lv_iconst (v := 2) hx hb dMd_at_66 (by decide) ?_
      refine lv_iadd hx hb dMd_at_67 ?_
      obtain ⟨h_5, hv⟩ := hv
      refine va_iald hx hb hK hP 1 0 rfl rfl h_5 dMd_at_68 ?_
      refine lv_bipush (v := 8) hx hb dMd_at_69 (by decide) ?_
      refine lv_ishl hx hb dMd_at_71 ?_
      refine lv_ior hx hb dMd_at_72 ?_
      refine lv_aload_n hx hb dMd_at_73 rfl (lv_at hl 1 rfl) ?_
      refine va_get (D := (dC, dI)) (ci := 8) (v := .ref q_samples) (C := RMd) (T := TMd) (N := 31) hx hb hB hiMd hown hK hP 0 rfl rfl 3 (by decide) hL7 (fun _ h9 => h9) rfl dMd_at_74 ?_
      refine lv_iload_n hx hb dMd_at_77 rfl (lv_at hl 0 rfl) ?_
      refine lv_iconst (v := 3) hx hb dMd_at_78 (by decide) ?_
      refine lv_iadd hx hb dMd_at_79 ?_
      obtain ⟨h_6, hv⟩ := hv
      refine va_iald hx hb hK hP 1 0 rfl rfl h_6 dMd_at_80 ?_
      refine lv_ior hx hb dMd_at_81 ?_
      exact j82 (((((f_samples v3_1.toNatClampNeg) <<< ((24 : Int32) &&& 31)) ||| ((f_samples (v3_1 + 1).toNatClampNeg) <<< ((16 : Int32) &&& 31))) ||| ((f_samples (v3_1 + 2).toNatClampNeg) <<< ((8 : Int32) &&& 31))) ||| (f_samples (v3_1 + 3).toNatClampNeg)) s0 hv _ _ _ hP hD hS (lv_sub hl [] rfl)
    · have hv := hv.2 c_2
      refine lv_iconst (v := 0) hx hb dMd_at_36 (by decide) ?_
      refine lv_goto (tgt := 82) hx hb dMd_at_37 (by decide) ?_
      exact j82 0 s0 hv _ _ _ hP hD hS (lv_sub hl [] rfl)
  rw [eG] at j15
  unfold wpMd_at at hw
  have hv := hw
  rw [eG]
  refine lv_aload_n hx hb dMd_at_0 rfl (lv_at hl 0 rfl) ?_
  refine lv_aload_n hx hb dMd_at_1 rfl (lv_at hl 0 rfl) ?_
  refine lv_iload_n hx hb dMd_at_2 rfl (lv_at hl 1 rfl) ?_
  refine lv_iload_n hx hb dMd_at_3 rfl (lv_at hl 2 rfl) ?_
  refine gx_ri (va_runV (As := [.int x1, .int x2]) (rest := [.ref q_this]) ⟨hx, hb, hml, hown, hB⟩ (metMd_isPlace l dC dI q_this q_samples r_isGiven r_gives r_colours r_many r_group r_row r_channelOf r_spreads r_boxMany r_there r_groupMany r_means r_sums r_palette r_has r_takers r_takenSums r_order r_before r_roundSums r_carried s.heap.size f_thrown f_width f_height f_different f_groups f_rowSize f_ready f_size f_rounds x1 x2 hv) (cwV 2 hB (gx_gV bw685 bw686 bw24 bw53 bw687) rfl rfl rfl (by decide +kernel) ⟨(Nat.le_of_ble_eq_true rfl), (Nat.le_of_ble_eq_true rfl)⟩) (gx_rpreV (ci := 8) (hP.sub (ws' := (wdMd_isPlace q_this q_samples r_isGiven r_gives r_colours r_many r_group r_row r_channelOf r_spreads r_boxMany r_there r_groupMany r_means r_sums r_palette r_has r_takers r_takenSums r_order r_before r_roundSums r_carried f_thrown f_width f_height f_different f_groups f_rowSize f_ready f_size f_rounds)) [0] rfl) (hK.sub (tys' := []) [] rfl) hZ hS hA rfl rfl) rfl rfl hl.1 rfl (lv_room (Nat.le_of_ble_eq_true rfl)) dMd_at_4 ⟨(Nat.le_of_ble_eq_true rfl), (Nat.le_of_ble_eq_true rfl)⟩) hP hS hA (fun r_7 H locs hv hP hS => ?_)
  refine lv_if_eq (tgt := 14) hx hb dMd_at_7 (by decide) (fun c_9 => ?_) (fun c_9 => ?_)
  · have hv := hv.1 c_9
    refine lv_iconst (v := 1) hx hb dMd_at_14 (by decide) ?_
    exact j15 1 hv _ _ _ hP hD hS (lv_sub hl [0, 1, 2] rfl)
  · have hv := hv.2 c_9
    refine lv_iconst (v := 0) hx hb dMd_at_10 (by decide) ?_
    refine lv_goto (tgt := 15) hx hb dMd_at_11 (by decide) ?_
    exact j15 0 hv _ _ _ hP hD hS (lv_sub hl [0, 1, 2] rfl)
