abbrev wdCL_packed  : va_W := []
set_option maxHeartbeats 4000000 in
set_option maxRecDepth 100000 in
theorem metCL_packed (l : Launch) (dC : Nat → ClassId) (dI : Nat → Nat → Nat) (sz : Nat) (x0 : Int32) (x1 : Int32) (x2 : Int32) (x3 : Int32) {post : Int32 → Prop} (hw : wpCL_packed x0 x1 x2 x3 post) : Met l yCL_packed (.code yCL_packed bCL_packed 4 (some .int) :: BIG) ({ frames := 0, cells := 0, slots := 0, locals := 0 }) (va_Pc [.int x0, .int x1, .int x2, .int x3] (gx_rpre (dC, dI) vwCl wdCL_packed [] sz)) (va_Qi (fun r (u : Unit) => post r ) (fun _ _ => True) (fun q : Nat => sz ≤ q)) 0 0 (fun q : Nat => sz ≤ q) := by
  refine Met.ofW (cc := bCL_packed) (maxL := 4) (ret := (some .int)) (by decide) rfl ?_
  intro p e s m args below meth c s₁ B hml hv
  obtain ⟨rfl, hsz, hP, hK, hZ⟩ := hv
  have hx := B.exec
  have hb := B.bytes
  have hr := B.returns
  have hts := atoms_spec (ws := (.code yCL_packed bCL_packed 4 (some .int) :: BIG)) B.pre
  have hB : ∀ w ∈ BIG, w.before _ s = true := fun w h => hts w (List.mem_cons_of_mem _ h)
  have hown : s.vm.findClass RCL = some m.cls := findClass_of_methodNamed B.named
  have hlocks := B.notSynchronized
  subst hsz
  have hA : ∀ q : Nat, s.heap.size ≤ q → (fun q : Nat => s.heap.size ≤ q) q := fun _ h => h
  have hS : va_S (fun q : Nat => s.heap.size ≤ q) s.heap s.heap [] := va_S.rf
  have hl := lv_entry ([.int x0, .int x1, .int x2, .int x3]) (n := 4) (Nat.le_of_ble_eq_true rfl)
  rw [lg_entry_eq]
  generalize (lg_sl ([.int x0, .int x1, .int x2, .int x3]) ++ List.replicate (4 - (lg_sl ([.int x0, .int x1, .int x2, .int x3])).length) Slot.unset).toArray = ls at hl ⊢
  have hl : lv_has ls 4 [(0, .int x0), (1, .int x1), (2, .int x2), (3, .int x3)] := hl
  unfold wpCL_packed at hw
  have hv := hw
  refine lv_iload_n hx hb dCL_packed_0 rfl (lv_at hl 0 rfl) ?_
  refine lv_bipush (v := 24) hx hb dCL_packed_1 (by decide) ?_
  refine lv_ishl hx hb dCL_packed_3 ?_
  refine lv_iload_n hx hb dCL_packed_4 rfl (lv_at hl 1 rfl) ?_
  refine lv_bipush (v := 16) hx hb dCL_packed_5 (by decide) ?_
  refine lv_ishl hx hb dCL_packed_7 ?_
  refine lv_ior hx hb dCL_packed_8 ?_
  refine lv_iload_n hx hb dCL_packed_9 rfl (lv_at hl 2 rfl) ?_
  refine lv_bipush (v := 8) hx hb dCL_packed_10 (by decide) ?_
  refine lv_ishl hx hb dCL_packed_12 ?_
  refine lv_ior hx hb dCL_packed_13 ?_
  refine lv_iload_n hx hb dCL_packed_14 rfl (lv_at hl 3 rfl) ?_
  refine lv_ior hx hb dCL_packed_15 ?_
  exact W.iret (v := (((x0 <<< ((24 : Int32) &&& 31)) ||| (x1 <<< ((16 : Int32) &&& 31))) ||| (x2 <<< ((8 : Int32) &&& 31))) ||| x3) hx hb hr (fun t ht hW => ⟨⟨_, (), rfl, hv, trivial⟩, hS.F ht⟩) hS.2.2 dCL_packed_16
abbrev wdPa_packedOf (q_this q_levels : Nat) (c_levels : ClassId) (n_levels : Nat) (f_size : Int32) (f_levels : Nat → Int32) : va_W := [(q_this, .inr (4, [.ref q_levels, .int f_size])), (q_levels, .inl (c_levels, n_levels, .inl f_levels))]
set_option maxHeartbeats 4000000 in
set_option maxRecDepth 100000 in
theorem metPa_packedOf (l : Launch) (dC : Nat → ClassId) (dI : Nat → Nat → Nat) (q_this q_levels : Nat) (c_levels : ClassId) (n_levels : Nat) (sz : Nat) (f_size : Int32) (f_levels : Nat → Int32) (x1 : Int32) {post : Int32 → Prop} (hw : wpPa_packedOf n_levels f_size f_levels x1 post) : Met l yPa_packedOf (.code yPa_packedOf bPa_packedOf 3 (some .int) :: BIG) ({ frames := 1, cells := 0, slots := 0, locals := 23 }) (va_Pc [.ref q_this, .int x1] (gx_rpre (dC, dI) vwCl (wdPa_packedOf q_this q_levels c_levels n_levels f_size f_levels) [(c_levels, .int)] sz)) (va_Qi (fun r (u : Unit) => post r ) (fun _ _ => True) (fun q : Nat => sz ≤ q)) 0 0 (fun q : Nat => sz ≤ q) := by
  refine Met.ofW (cc := bPa_packedOf) (maxL := 3) (ret := (some .int)) (by decide) rfl ?_
  intro p e s m args below meth c s₁ B hml hv
  obtain ⟨rfl, hsz, hP, hK, hZ⟩ := hv
  have hx := B.exec
  have hb := B.bytes
  have hr := B.returns
  have hts := atoms_spec (ws := (.code yPa_packedOf bPa_packedOf 3 (some .int) :: BIG)) B.pre
  have hB : ∀ w ∈ BIG, w.before _ s = true := fun w h => hts w (List.mem_cons_of_mem _ h)
  have hown : s.vm.findClass RPa = some m.cls := findClass_of_methodNamed B.named
  have hlocks := B.notSynchronized
  subst hsz
  have hA : ∀ q : Nat, s.heap.size ≤ q → (fun q : Nat => s.heap.size ≤ q) q := fun _ h => h
  have hS : va_S (fun q : Nat => s.heap.size ≤ q) s.heap s.heap [] := va_S.rf
  have hl := lv_entry ([.ref q_this, .int x1]) (n := 3) (Nat.le_of_ble_eq_true rfl)
  rw [lg_entry_eq]
  generalize (lg_sl ([.ref q_this, .int x1]) ++ List.replicate (3 - (lg_sl ([.ref q_this, .int x1])).length) Slot.unset).toArray = ls at hl ⊢
  have hl : lv_has ls 3 [(0, .ref q_this), (1, .int x1)] := hl
  have hL9 := (hB _ bw163)
  unfold wpPa_packedOf at hw
  have hv := hw
  refine lv_iload_n hx hb dPa_packedOf_0 rfl (lv_at hl 1 rfl) ?_
  refine lv_iconst (v := 4) hx hb dPa_packedOf_1 (by decide) ?_
  refine lv_imul hx hb dPa_packedOf_2 ?_
  refine lv_topi (fun v2_1 ev2_1 => ?_)
  have hv := hv v2_1 ev2_1
  refine lv_istore_n (lv' := [(2, .int v2_1), (0, .ref q_this), (1, .int x1)]) hx hb dPa_packedOf_3 rfl hl (by decide) rfl (fun ls hl => ?_)
  refine lv_aload_n hx hb dPa_packedOf_4 rfl (lv_at hl 1 rfl) ?_
  refine va_get (D := (dC, dI)) (ci := 4) (v := .ref q_levels) (C := RPa) (T := TPa) (N := 2) hx hb hB hiPa hown hK hP 0 rfl rfl 0 (by decide) hL9 (fun _ h9 => h9) rfl dPa_packedOf_5 ?_
  refine lv_iload_n hx hb dPa_packedOf_8 rfl (lv_at hl 0 rfl) ?_
  obtain ⟨h_2, hv⟩ := hv
  refine va_iald hx hb hK hP 1 0 rfl rfl h_2 dPa_packedOf_9 ?_
  refine lv_aload_n hx hb dPa_packedOf_10 rfl (lv_at hl 1 rfl) ?_
  refine va_get (D := (dC, dI)) (ci := 4) (v := .ref q_levels) (C := RPa) (T := TPa) (N := 2) hx hb hB hiPa hown hK hP 0 rfl rfl 0 (by decide) hL9 (fun _ h9 => h9) rfl dPa_packedOf_11 ?_
  refine lv_iload_n hx hb dPa_packedOf_14 rfl (lv_at hl 0 rfl) ?_
  refine lv_iconst (v := 1) hx hb dPa_packedOf_15 (by decide) ?_
  refine lv_iadd hx hb dPa_packedOf_16 ?_
  obtain ⟨h_3, hv⟩ := hv
  refine va_iald hx hb hK hP 1 0 rfl rfl h_3 dPa_packedOf_17 ?_
  refine lv_aload_n hx hb dPa_packedOf_18 rfl (lv_at hl 1 rfl) ?_
  refine va_get (D := (dC, dI)) (ci := 4) (v := .ref q_levels) (C := RPa) (T := TPa) (N := 2) hx hb hB hiPa hown hK hP 0 rfl rfl 0 (by decide) hL9 (fun _ h9 => h9) rfl dPa_packedOf_19 ?_
  refine lv_iload_n hx hb dPa_packedOf_22 rfl (lv_at hl 0 rfl) ?_
  refine lv_iconst (v := 2) hx hb dPa_packedOf_23 (by decide) ?_
  refine lv_iadd hx hb dPa_packedOf_24 ?_
  obtain ⟨h_4, hv⟩ := hv
  refine va_iald hx hb hK hP 1 0 rfl rfl h_4 dPa_packedOf_25 ?_
  refine lv_aload_n hx hb dPa_packedOf_26 rfl (lv_at hl 1 rfl) ?_
  refine va_get (D := (dC, dI)) (ci := 4) (v := .ref q_levels) (C := RPa) (T := TPa) (N := 2) hx hb hB hiPa hown hK hP 0 rfl rfl 0 (by decide) hL9 (fun _ h9 => h9) rfl dPa_packedOf_27 ?_
  refine lv_iload_n hx hb dPa_packedOf_30 rfl (lv_at hl 0 rfl) ?_
  refine lv_iconst (v := 3) hx hb dPa_packedOf_31 (by decide) ?_
  refine lv_iadd hx hb dPa_packedOf_32 ?_
  obtain ⟨h_5, hv⟩ := hv
  refine va_iald hx hb hK hP 1 0 rfl rfl h_5 dPa_packedOf_33 ?_
  refine gx_ri (va_runSN (As := [.int (f_levels v2_1.toNatClampNeg), .int (f_levels (v2_1 + 1).toNatClampNeg), .int (f_levels (v2_1 + 2).toNatClampNeg), .int (f_levels (v2_1 + 3).toNatClampNeg)]) (rest := []) ⟨hx, hb, hml, hown, hB⟩ (metCL_packed l dC dI s.heap.size (f_levels v2_1.toNatClampNeg) (f_levels (v2_1 + 1).toNatClampNeg) (f_levels (v2_1 + 2).toNatClampNeg) (f_levels (v2_1 + 3).toNatClampNeg) hv) ⟨va_cnB 4 hB (gx_gN bw351) rfl rfl rfl (hZ.1 _ (List.mem_of_getElem? (i := 20) rfl)) (hB _ bw44) (by decide +kernel) ⟨(Nat.le_of_ble_eq_true rfl), (Nat.le_of_ble_eq_true rfl)⟩, (hB _ bw350), trivial⟩ (gx_rpreS (hP.sub (ws' := wdCL_packed) [] rfl) (hK.sub (tys' := []) [] rfl) hZ hS hA) rfl rfl hl.1 rfl (lv_room (Nat.le_of_ble_eq_true rfl)) dPa_packedOf_34 ⟨(Nat.le_of_ble_eq_true rfl), (Nat.le_of_ble_eq_true rfl)⟩) hP hS hA (fun r_6 H locs hv hP hS => ?_)
  exact W.iret (v := r_6) hx hb hr (fun t ht hW => ⟨⟨_, (), rfl, hv, trivial⟩, hS.F ht⟩) hS.2.2 dPa_packedOf_37
abbrev wdCL_farApart  : va_W := []
set_option maxHeartbeats 4000000 in
set_option maxRecDepth 100000 in
theorem metCL_farApart (l : Launch) (dC : Nat → ClassId) (dI : Nat → Nat → Nat) (sz : Nat) (x0 : Int32) (x1 : Int32) {post : Int32 → Prop} (hw : wpCL_farApart x0 x1 post) : Met l yCL_farApart (.code yCL_farApart bCL_farApart 4 (some .int) :: BIG) ({ frames := 1, cells := 0, slots := 0, locals := 21 }) (va_Pc [.int x0, .int x1] (gx_rpre (dC, dI) vwCl wdCL_farApart [] sz)) (va_Qi (fun r (u : Unit) => post r ) (fun _ _ => True) (fun q : Nat => sz ≤ q)) 0 0 (fun q : Nat => sz ≤ q) := by
  refine Met.ofW (cc := bCL_farApart) (maxL := 4) (ret := (some .int)) (by decide) rfl ?_
  intro p e s m args below meth c s₁ B hml hv
  obtain ⟨rfl, hsz, hP, hK, hZ⟩ := hv
  have hx := B.exec
  have hb := B.bytes
  have hr := B.returns
  have hts := atoms_spec (ws := (.code yCL_farApart bCL_farApart 4 (some .int) :: BIG)) B.pre
  have hB : ∀ w ∈ BIG, w.before _ s = true := fun w h => hts w (List.mem_cons_of_mem _ h)
  have hown : s.vm.findClass RCL = some m.cls := findClass_of_methodNamed B.named
  have hlocks := B.notSynchronized
  subst hsz
  have hA : ∀ q : Nat, s.heap.size ≤ q → (fun q : Nat => s.heap.size ≤ q) q := fun _ h => h
  have hS : va_S (fun q : Nat => s.heap.size ≤ q) s.heap s.heap [] := va_S.rf
  have hl := lv_entry ([.int x0, .int x1]) (n := 4) (Nat.le_of_ble_eq_true rfl)
  rw [lg_entry_eq]
  generalize (lg_sl ([.int x0, .int x1]) ++ List.replicate (4 - (lg_sl ([.int x0, .int x1])).length) Slot.unset).toArray = ls at hl ⊢
  have hl : lv_has ls 4 [(0, .int x0), (1, .int x1)] := hl
  refine gx_abs (fun G eG => ?_)
  obtain ⟨K4, eK4⟩ : ∃ K : Int32 → Int32 → Prop, K = fun v2 v3 => ∀ (H : Heap) (locs : List Loc) (ls : Array Slot), va_P (dC, dI) vwCl wdCL_farApart H → va_S (fun q : Nat => s.heap.size ≤ q) s.heap H locs → lv_has ls 4 [(0, .int x0), (1, .int x1), (2, .int v2), (3, .int v3)] → G H locs 0 0 (F0 m 4 ls []) := ⟨_, rfl⟩
  unfold wpCL_farApart at hw
  have hv := hw K4
  have hv := hv (by
    intro v2 v3 hv
    rw [eK4]
    intro H locs ls hP hS hl
    rw [eG]
    unfold vcCL_farApart_4 at hv
    refine lv_iload_n hx hb dCL_farApart_4 rfl (lv_at hl 3 rfl) ?_
    refine lv_iconst (v := 4) hx hb dCL_farApart_5 (by decide) ?_
    refine lv_icmp_ge (tgt := 32) hx hb dCL_farApart_6 (by decide) (fun c_1 => ?_) (fun c_1 => ?_)
    · have hv := hv.1 c_1
      refine lv_iload_n hx hb dCL_farApart_32 rfl (lv_at hl 2 rfl) ?_
      exact W.iret (v := v2) hx hb hr (fun t ht hW => ⟨⟨_, (), rfl, hv, trivial⟩, hS.F ht⟩) hS.2.2 dCL_farApart_33
    · have hv := hv.2 c_1
      refine lv_iload_n hx hb dCL_farApart_9 rfl (lv_at hl 2 rfl) ?_
      refine lv_iload_n hx hb dCL_farApart_10 rfl (lv_at hl 0 rfl) ?_
      refine lv_iload_n hx hb dCL_farApart_11 rfl (lv_at hl 3 rfl) ?_
      refine gx_ri (va_runS (As := [.int x0, .int v3]) (rest := [.int v2]) ⟨hx, hb, hml, hown, hB⟩ (metCL_levelOf l dC dI H.size x0 v3 hv) (va_cwS 2 hB (gx_gS bw362 bw363 bw44 bw364) rfl rfl rfl (by decide +kernel) ⟨(Nat.le_of_ble_eq_true rfl), (Nat.le_of_ble_eq_true rfl)⟩) (gx_rpreS (hP.sub (ws' := wdCL_levelOf) [] rfl) (hK.sub (tys' := []) [] rfl) hZ hS hA) rfl rfl hl.1 rfl (lv_room (Nat.le_of_ble_eq_true rfl)) dCL_farApart_12 ⟨(Nat.le_of_ble_eq_true rfl), (Nat.le_of_ble_eq_true rfl)⟩) hP hS hA (fun r_2 H locs hv hP hS => ?_)
      refine lv_iload_n hx hb dCL_farApart_15 rfl (lv_at hl 1 rfl) ?_
      refine lv_iload_n hx hb dCL_farApart_16 rfl (lv_at hl 3 rfl) ?_
      refine gx_ri (va_runS (As := [.int x1, .int v3]) (rest := [.int r_2, .int v2]) ⟨hx, hb, hml, hown, hB⟩ (metCL_levelOf l dC dI H.size x1 v3 hv) (va_cwS 2 hB (gx_gS bw362 bw363 bw44 bw364) rfl rfl rfl (by decide +kernel) ⟨(Nat.le_of_ble_eq_true rfl), (Nat.le_of_ble_eq_true rfl)⟩) (gx_rpreS (hP.sub (ws' := wdCL_levelOf) [] rfl) (hK.sub (tys' := []) [] rfl) hZ hS hA) rfl rfl hl.1 rfl (lv_room (Nat.le_of_ble_eq_true rfl)) dCL_farApart_17 ⟨(Nat.le_of_ble_eq_true rfl), (Nat.le_of_ble_eq_true rfl)⟩) hP hS hA (fun r_4 H locs hv hP hS => ?_)
      refine lv_isub hx hb dCL_farApart_20 ?_
      refine gx_ri (va_runS (As := [.int (r_2 - r_4)]) (rest := [.int v2]) ⟨hx, hb, hml, hown, hB⟩ (metCL_square l dC dI H.size (r_2 - r_4) hv) (va_cwS 1 hB (gx_gS bw456 bw457 bw44 bw458) rfl rfl rfl (by decide +kernel) ⟨(Nat.le_of_ble_eq_true rfl), (Nat.le_of_ble_eq_true rfl)⟩) (gx_rpreS (hP.sub (ws' := wdCL_square) [] rfl) (hK.sub (tys' := []) [] rfl) hZ hS hA) rfl rfl hl.1 rfl (lv_room (Nat.le_of_ble_eq_true rfl)) dCL_farApart_21 ⟨(Nat.le_of_ble_eq_true rfl), (Nat.le_of_ble_eq_true rfl)⟩) hP hS hA (fun r_6 H locs hv hP hS => ?_)
      refine lv_iadd hx hb dCL_farApart_24 ?_
      refine lv_topi (fun v2_8 ev2_8 => ?_)
      have hv := hv v2_8 ev2_8
      refine lv_istore_n (lv' := [(2, .int v2_8), (0, .int x0), (1, .int x1), (3, .int v3)]) hx hb dCL_farApart_25 rfl hl (by decide) rfl (fun ls hl => ?_)
      refine lv_iinc (v := v3 + 1) (lv' := [(3, .int (v3 + 1)), (2, .int v2_8), (0, .int x0), (1, .int x1)]) hx hb dCL_farApart_26 hl (k := 3) rfl rfl (by decide) rfl (fun ls hl => ?_)
      refine lv_goto (tgt := 4) hx hb dCL_farApart_29 (by decide) ?_
      rw [eK4, eG] at hv
      exact hv _ _ _ hP hS (lv_sub hl [2, 3, 1, 0] rfl))
  rw [eG]
  refine lv_iconst (v := 0) hx hb dCL_farApart_0 (by decide) ?_
  refine lv_istore_n (lv' := [(2, .int 0), (0, .int x0), (1, .int x1)]) hx hb dCL_farApart_1 rfl hl (by decide) rfl (fun ls hl => ?_)
  refine lv_iconst (v := 0) hx hb dCL_farApart_2 (by decide) ?_
  refine lv_istore_n (lv' := [(3, .int 0), (2, .int 0), (0, .int x0), (1, .int x1)]) hx hb dCL_farApart_3 rfl hl (by decide) rfl (fun ls hl => ?_)
  rw [eK4, eG] at hv
  exact hv _ _ _ hP hS (lv_sub hl [2, 3, 1, 0] rfl)
abbrev wdFi_takeClosest (q_this q_taken q_shades q_shades_tint q_shades_many q_palette q_palette_levels r_missed r_takers r_keys r_shades_rank r_shades_keys : Nat) (c_taken c_shades_tint c_shades_many c_palette_levels : ClassId) (n_taken n_shades_tint n_shades_many n_palette_levels : Nat) (f_rounds : Int32) (f_taken : Nat → Int32) (f_shades_size : Int32) (f_shades_stale : Int32) (f_shades_tint : Nat → Int32) (f_shades_many : Nat → Int32) (f_palette_size : Int32) (f_palette_levels : Nat → Int32) : va_W := [(q_this, .inr (2, [.ref q_taken, .ref r_missed, .ref r_takers, .ref r_keys, .int f_rounds])), (q_taken, .inl (c_taken, n_taken, .inl f_taken)), (q_shades, .inr (6, [.ref q_shades_tint, .ref q_shades_many, .ref r_shades_rank, .ref r_shades_keys, .int f_shades_size, .int f_shades_stale])), (q_shades_tint, .inl (c_shades_tint, n_shades_tint, .inl f_shades_tint)), (q_shades_many, .inl (c_shades_many, n_shades_many, .inl f_shades_many)), (q_palette, .inr (4, [.ref q_palette_levels, .int f_palette_size])), (q_palette_levels, .inl (c_palette_levels, n_palette_levels, .inl f_palette_levels))]
set_option maxHeartbeats 4000000 in
set_option maxRecDepth 100000 in
theorem metFi_takeClosest (l : Launch) (dC : Nat → ClassId) (dI : Nat → Nat → Nat) (q_this q_taken q_shades q_shades_tint q_shades_many q_palette q_palette_levels r_missed r_takers r_keys r_shades_rank r_shades_keys : Nat) (c_taken c_shades_tint c_shades_many c_palette_levels : ClassId) (n_taken n_shades_tint n_shades_many n_palette_levels : Nat) (sz : Nat) (f_rounds : Int32) (f_taken : Nat → Int32) (f_shades_size : Int32) (f_shades_stale : Int32) (f_shades_tint : Nat → Int32) (f_shades_many : Nat → Int32) (f_palette_size : Int32) (f_palette_levels : Nat → Int32) {post : Int64 → (Nat → Int32) → Prop} (hw : wpFi_takeClosest n_taken n_shades_tint n_shades_many n_palette_levels f_rounds f_taken f_shades_size f_shades_stale f_shades_tint f_shades_many f_palette_size f_palette_levels post) : Met l yFi_takeClosest (.code yFi_takeClosest bFi_takeClosest 8 (some .long) :: BIG) ({ frames := 2, cells := 0, slots := 0, locals := 49 }) (va_Pc [.ref q_this, .ref q_shades, .ref q_palette] (gx_pre (dC, dI) vwCl (wdFi_takeClosest q_this q_taken q_shades q_shades_tint q_shades_many q_palette q_palette_levels r_missed r_takers r_keys r_shades_rank r_shades_keys c_taken c_shades_tint c_shades_many c_palette_levels n_taken n_shades_tint n_shades_many n_palette_levels f_rounds f_taken f_shades_size f_shades_stale f_shades_tint f_shades_many f_palette_size f_palette_levels) [(c_taken, .int), (c_shades_tint, .int), (c_shades_many, .int), (c_palette_levels, .int)] sz)) (va_Ql (fun r (u : (Nat → Int32)) => post r u) (gx_B (dC, dI) vwCl (va_A (wdFi_takeClosest q_this q_taken q_shades q_shades_tint q_shades_many q_palette q_palette_levels r_missed r_takers r_keys r_shades_rank r_shades_keys c_taken c_shades_tint c_shades_many c_palette_levels n_taken n_shades_tint n_shades_many n_palette_levels f_rounds f_taken f_shades_size f_shades_stale f_shades_tint f_shades_many f_palette_size f_palette_levels) sz) (fun (u : (Nat → Int32)) => (wdFi_takeClosest q_this q_taken q_shades q_shades_tint q_shades_many q_palette q_palette_levels r_missed r_takers r_keys r_shades_rank r_shades_keys c_taken c_shades_tint c_shades_many c_palette_levels n_taken n_shades_tint n_shades_many n_palette_levels f_rounds u f_shades_size f_shades_stale f_shades_tint f_shades_many f_palette_size f_palette_levels))) (va_A (wdFi_takeClosest q_this q_taken q_shades q_shades_tint q_shades_many q_palette q_palette_levels r_missed r_takers r_keys r_shades_rank r_shades_keys c_taken c_shades_tint c_shades_many c_palette_levels n_taken n_shades_tint n_shades_many n_palette_levels f_rounds f_taken f_shades_size f_shades_stale f_shades_tint f_shades_many f_palette_size f_palette_levels) sz)) 0 0 (va_A (wdFi_takeClosest q_this q_taken q_shades q_shades_tint q_shades_many q_palette q_palette_levels r_missed r_takers r_keys r_shades_rank r_shades_keys c_taken c_shades_tint c_shades_many c_palette_levels n_taken n_shades_tint n_shades_many n_palette_levels f_rounds f_taken f_shades_size f_shades_stale f_shades_tint f_shades_many f_palette_size f_palette_levels) sz) := by
  refine Met.ofW (cc := bFi_takeClosest) (maxL := 8) (ret := (some .long)) (by decide) rfl ?_
  intro p e s m args below meth c s₁ B hml hv
  obtain ⟨rfl, hsz, hP, hK, hD0, hZ⟩ := hv
  have hx := B.exec
  have hb := B.bytes
  have hr := B.returns
  have hts := atoms_spec (ws := (.code yFi_takeClosest bFi_takeClosest 8 (some .long) :: BIG)) B.pre
  have hB : ∀ w ∈ BIG, w.before _ s = true := fun w h => hts w (List.mem_cons_of_mem _ h)
  have hown : s.vm.findClass RFi = some m.cls := findClass_of_methodNamed B.named
  have hlocks := B.notSynchronized
  subst hsz
  have hD := hD0.self (sz := s.heap.size)
  generalize hAe : va_A (wdFi_takeClosest q_this q_taken q_shades q_shades_tint q_shades_many q_palette q_palette_levels r_missed r_takers r_keys r_shades_rank r_shades_keys c_taken c_shades_tint c_shades_many c_palette_levels n_taken n_shades_tint n_shades_many n_palette_levels f_rounds f_taken f_shades_size f_shades_stale f_shades_tint f_shades_many f_palette_size f_palette_levels) s.heap.size = A at hD hZ ⊢
  have hA : ∀ q : Nat, s.heap.size ≤ q → A q := fun q h => by rw [← hAe]; exact Or.inr h
  have hS : va_S A s.heap s.heap [] := va_S.rf
  have hl := lv_entry ([.ref q_this, .ref q_shades, .ref q_palette]) (n := 8) (Nat.le_of_ble_eq_true rfl)
  rw [lg_entry_eq]
  generalize (lg_sl ([.ref q_this, .ref q_shades, .ref q_palette]) ++ List.replicate (8 - (lg_sl ([.ref q_this, .ref q_shades, .ref q_palette])).length) Slot.unset).toArray = ls at hl ⊢
  have hl : lv_has ls 8 [(0, .ref q_this), (1, .ref q_shades), (2, .ref q_palette)] := hl
  have hL22 := (hB _ bw178)
  have hL49 := (hB _ bw99)
  have hL54 := (hB _ bw90)
  have hL74 := (hB _ bw87)
  refine gx_abs (fun G eG => ?_)
  obtain ⟨K5, eK5⟩ : ∃ K : Int64 → Int32 → (Nat → Int32) → Prop, K = fun v3 v5 f_taken => ∀ (H : Heap) (locs : List Loc) (ls : Array Slot), va_P (dC, dI) vwCl (wdFi_takeClosest q_this q_taken q_shades q_shades_tint q_shades_many q_palette q_palette_levels r_missed r_takers r_keys r_shades_rank r_shades_keys c_taken c_shades_tint c_shades_many c_palette_levels n_taken n_shades_tint n_shades_many n_palette_levels f_rounds f_taken f_shades_size f_shades_stale f_shades_tint f_shades_many f_palette_size f_palette_levels) H → va_D A (wdFi_takeClosest q_this q_taken q_shades q_shades_tint q_shades_many q_palette q_palette_levels r_missed r_takers r_keys r_shades_rank r_shades_keys c_taken c_shades_tint c_shades_many c_palette_levels n_taken n_shades_tint n_shades_many n_palette_levels f_rounds f_taken f_shades_size f_shades_stale f_shades_tint f_shades_many f_palette_size f_palette_levels) → va_S A s.heap H locs → lv_has ls 8 [(0, .ref q_this), (1, .ref q_shades), (2, .ref q_palette), (3, .long v3), (5, .int v5)] → G H locs 0 0 (F0 m 5 ls []) := ⟨_, rfl⟩
  unfold wpFi_takeClosest at hw
  have hv := hw K5
  have hv := hv (by
    intro v3 v5 f_taken hv
    rw [eK5]
    intro H locs ls hP hD hS hl
    rw [eG]
    unfold vcFi_takeClosest_5 at hv
    refine lv_iload hx hb dFi_takeClosest_5 (lv_at hl 4 rfl) ?_
    refine lv_aload_n hx hb dFi_takeClosest_7 rfl (lv_at hl 1 rfl) ?_
    refine va_get (D := (dC, dI)) (ci := 6) (v := .int f_shades_size) (C := RSh) (T := TSh) (N := 6) hx hb hB hiSh hown hK hP 2 rfl rfl 4 (by decide) hL49 (fun _ h9 => h9) rfl dFi_takeClosest_8 ?_
    refine lv_icmp_ge (tgt := 92) hx hb dFi_takeClosest_11 (by decide) (fun c_1 => ?_) (fun c_1 => ?_)
    · have hv := hv.1 c_1
      refine lv_lload_n hx hb dFi_takeClosest_92 rfl (lv_at hl 3 rfl) ?_
      exact W.lret (v := v3) hx hb hr (fun t ht hW => ⟨⟨_, f_taken, rfl, hv, by rw [ht]; exact hP, hD⟩, hS.F ht⟩) hS.2.2 dFi_takeClosest_93
    · have hv := hv.2 c_1
      refine lv_aload_n hx hb dFi_takeClosest_14 rfl (lv_at hl 1 rfl) ?_
      refine va_get (D := (dC, dI)) (ci := 6) (v := .ref q_shades_tint) (C := RSh) (T := TSh) (N := 6) hx hb hB hiSh hown hK hP 2 rfl rfl 0 (by decide) hL74 (fun _ h9 => h9) rfl dFi_takeClosest_15 ?_
      refine lv_iload hx hb dFi_takeClosest_18 (lv_at hl 4 rfl) ?_
      obtain ⟨h_2, hv⟩ := hv
      refine va_iald hx hb hK hP 3 1 rfl rfl h_2 dFi_takeClosest_20 ?_
      refine lv_topi (fun v6_3 ev6_3 => ?_)
      have hv := hv v6_3 ev6_3
      refine lv_istore (lv' := [(6, .int v6_3), (0, .ref q_this), (1, .ref q_shades), (2, .ref q_palette), (3, .long v3), (5, .int v5)]) hx hb dFi_takeClosest_21 hl (by decide) rfl (fun ls hl => ?_)
      refine lv_aload_n hx hb dFi_takeClosest_23 rfl (lv_at hl 3 rfl) ?_
      refine lv_iload hx hb dFi_takeClosest_24 (lv_at hl 0 rfl) ?_
      refine lv_iconst (v := 0) hx hb dFi_takeClosest_26 (by decide) ?_
      refine gx_ri (va_runSN (As := [.int v6_3, .int 0]) (rest := [.ref q_palette]) ⟨hx, hb, hml, hown, hB⟩ (metCL_levelOf l dC dI H.size v6_3 0 hv) ⟨va_cnB 2 hB (gx_gN bw364) rfl rfl rfl (hZ.1 _ (List.mem_of_getElem? (i := 18) rfl)) (hB _ bw44) (by decide +kernel) ⟨(Nat.le_of_ble_eq_true rfl), (Nat.le_of_ble_eq_true rfl)⟩, (hB _ bw363), trivial⟩ (gx_rpreS (hP.sub (ws' := wdCL_levelOf) [] rfl) (hK.sub (tys' := []) [] rfl) hZ hS hA) rfl rfl hl.1 rfl (lv_room (Nat.le_of_ble_eq_true rfl)) dFi_takeClosest_27 ⟨(Nat.le_of_ble_eq_true rfl), (Nat.le_of_ble_eq_true rfl)⟩) hP hS hA (fun r_4 H locs hv hP hS => ?_)
      refine lv_iload hx hb dFi_takeClosest_30 (lv_at hl 0 rfl) ?_
      refine lv_iconst (v := 1) hx hb dFi_takeClosest_32 (by decide) ?_
      refine gx_ri (va_runSN (As := [.int v6_3, .int 1]) (rest := [.int r_4, .ref q_palette]) ⟨hx, hb, hml, hown, hB⟩ (metCL_levelOf l dC dI H.size v6_3 1 hv) ⟨va_cnB 2 hB (gx_gN bw364) rfl rfl rfl (hZ.1 _ (List.mem_of_getElem? (i := 18) rfl)) (hB _ bw44) (by decide +kernel) ⟨(Nat.le_of_ble_eq_true rfl), (Nat.le_of_ble_eq_true rfl)⟩, (hB _ bw363), trivial⟩ (gx_rpreS (hP.sub (ws' := wdCL_levelOf) [] rfl) (hK.sub (tys' := []) [] rfl) hZ hS hA) rfl rfl hl.1 rfl (lv_room (Nat.le_of_ble_eq_true rfl)) dFi_takeClosest_33 ⟨(Nat.le_of_ble_eq_true rfl), (Nat.le_of_ble_eq_true rfl)⟩) hP hS hA (fun r_6 H locs hv hP hS => ?_)
      refine lv_iload hx hb dFi_takeClosest_36 (lv_at hl 0 rfl) ?_
      refine lv_iconst (v := 2) hx hb dFi_takeClosest_38 (by decide) ?_
      refine gx_ri (va_runSN (As := [.int v6_3, .int 2]) (rest := [.int r_6, .int r_4, .ref q_palette]) ⟨hx, hb, hml, hown, hB⟩ (metCL_levelOf l dC dI H.size v6_3 2 hv) ⟨va_cnB 2 hB (gx_gN bw364) rfl rfl rfl (hZ.1 _ (List.mem_of_getElem? (i := 18) rfl)) (hB _ bw44) (by decide +kernel) ⟨(Nat.le_of_ble_eq_true rfl), (Nat.le_of_ble_eq_true rfl)⟩, (hB _ bw363), trivial⟩ (gx_rpreS (hP.sub (ws' := wdCL_levelOf) [] rfl) (hK.sub (tys' := []) [] rfl) hZ hS hA) rfl rfl hl.1 rfl (lv_room (Nat.le_of_ble_eq_true rfl)) dFi_takeClosest_39 ⟨(Nat.le_of_ble_eq_true rfl), (Nat.le_of_ble_eq_true rfl)⟩) hP hS hA (fun r_8 H locs hv hP hS => ?_)
      refine lv_iload hx hb dFi_takeClosest_42 (lv_at hl 0 rfl) ?_
      refine lv_iconst (v := 3) hx hb dFi_takeClosest_44 (by decide) ?_
      refine gx_ri (va_runSN (As := [.int v6_3, .int 3]) (rest := [.int r_8, .int r_6, .int r_4, .ref q_palette]) ⟨hx, hb, hml, hown, hB⟩ (metCL_levelOf l dC dI H.size v6_3 3 hv) ⟨va_cnB 2 hB (gx_gN bw364) rfl rfl rfl (hZ.1 _ (List.mem_of_getElem? (i := 18) rfl)) (hB _ bw44) (by decide +kernel) ⟨(Nat.le_of_ble_eq_true rfl), (Nat.le_of_ble_eq_true rfl)⟩, (hB _ bw363), trivial⟩ (gx_rpreS (hP.sub (ws' := wdCL_levelOf) [] rfl) (hK.sub (tys' := []) [] rfl) hZ hS hA) rfl rfl hl.1 rfl (lv_room (Nat.le_of_ble_eq_true rfl)) dFi_takeClosest_45 ⟨(Nat.le_of_ble_eq_true rfl), (Nat.le_of_ble_eq_true rfl)⟩) hP hS hA (fun r_10 H locs hv hP hS => ?_)
      refine gx_ri (va_runV (As := [.int r_4, .int r_6, .int r_8, .int r_10]) (rest := []) ⟨hx, hb, hml, hown, hB⟩ (metPa_closest l dC dI q_palette q_palette_levels c_palette_levels n_palette_levels H.size f_palette_size f_palette_levels r_4 r_6 r_8 r_10 hv) (cwV 4 hB (gx_gV bw478 bw479 bw480 bw50 bw481) rfl rfl rfl (by decide +kernel) ⟨(Nat.le_of_ble_eq_true rfl), (Nat.le_of_ble_eq_true rfl)⟩) (gx_rpreV (ci := 4) (hP.sub (ws' := (wdPa_closest q_palette q_palette_levels c_palette_levels n_palette_levels f_palette_size f_palette_levels)) [5, 6] rfl) (hK.sub (tys' := [(c_palette_levels, .int)]) [3] rfl) hZ hS hA rfl rfl) rfl rfl hl.1 rfl (lv_room (Nat.le_of_ble_eq_true rfl)) dFi_takeClosest_48 ⟨(Nat.le_of_ble_eq_true rfl), (Nat.le_of_ble_eq_true rfl)⟩) hP hS hA (fun r_12 H locs hv hP hS => ?_)
      refine lv_istore (lv' := [(7, .int r_12), (6, .int v6_3), (0, .ref q_this), (1, .ref q_shades), (2, .ref q_palette), (3, .long v3), (5, .int v5)]) hx hb dFi_takeClosest_51 hl (by decide) rfl (fun ls hl => ?_)
      refine lv_aload_n hx hb dFi_takeClosest_53 rfl (lv_at hl 2 rfl) ?_
      refine va_get (D := (dC, dI)) (ci := 2) (v := .ref q_taken) (C := RFi) (T := TFi) (N := 5) hx hb hB hiFi hown hK hP 0 rfl rfl 0 (by decide) hL22 (fun _ h9 => h9) rfl dFi_takeClosest_54 ?_
      refine lv_iload hx hb dFi_takeClosest_57 (lv_at hl 6 rfl) ?_
      refine lv_iload hx hb dFi_takeClosest_59 (lv_at hl 0 rfl) ?_
      obtain ⟨h_14, hv⟩ := hv
      refine va_iast hx hb hK hP hD hS 1 0 rfl rfl h_14 dFi_takeClosest_61 (fun H locs hP hD hS => ?_)
      have hP : va_P (dC, dI) vwCl (wdFi_takeClosest q_this q_taken q_shades q_shades_tint q_shades_many q_palette q_palette_levels r_missed r_takers r_keys r_shades_rank r_shades_keys c_taken c_shades_tint c_shades_many c_palette_levels n_taken n_shades_tint n_shades_many n_palette_levels f_rounds (upd f_taken v5.toNatClampNeg r_12) f_shades_size f_shades_stale f_shades_tint f_shades_many f_palette_size f_palette_levels) H := hP
      have hD : va_D A (wdFi_takeClosest q_this q_taken q_shades q_shades_tint q_shades_many q_palette q_palette_levels r_missed r_takers r_keys r_shades_rank r_shades_keys c_taken c_shades_tint c_shades_many c_palette_levels n_taken n_shades_tint n_shades_many n_palette_levels f_rounds (upd f_taken v5.toNatClampNeg r_12) f_shades_size f_shades_stale f_shades_tint f_shades_many f_palette_size f_palette_levels) := hD
      refine lv_lload_n hx hb dFi_takeClosest_62 rfl (lv_at hl 5 rfl) ?_
      refine lv_aload_n hx hb dFi_takeClosest_63 rfl (lv_at hl 3 rfl) ?_
      refine va_get (D := (dC, dI)) (ci := 6) (v := .ref q_shades_many) (C := RSh) (T := TSh) (N := 6) hx hb hB hiSh hown hK hP 2 rfl rfl 1 (by decide) hL54 (fun _ h9 => h9) rfl dFi_takeClosest_64 ?_
      refine lv_iload hx hb dFi_takeClosest_67 (lv_at hl 6 rfl) ?_
      obtain ⟨h_16, hv⟩ := hv
      refine va_iald hx hb hK hP 4 2 rfl rfl h_16 dFi_takeClosest_69 ?_
      refine lv_i2l hx hb dFi_takeClosest_70 rfl ?_
      refine lv_iload hx hb dFi_takeClosest_71 (lv_at hl 1 rfl) ?_
      refine lv_aload_n hx hb dFi_takeClosest_73 rfl (lv_at hl 4 rfl) ?_
      refine lv_iload hx hb dFi_takeClosest_74 (lv_at hl 0 rfl) ?_
      refine gx_ri (va_runV (As := [.int r_12]) (rest := [.int v6_3, .long ((f_shades_many v5.toNatClampNeg).toInt64), .long v3]) ⟨hx, hb, hml, hown, hB⟩ (metPa_packedOf l dC dI q_palette q_palette_levels c_palette_levels n_palette_levels H.size f_palette_size f_palette_levels r_12 hv) (cwV 1 hB (gx_gV bw483 bw484 bw485 bw50 bw486) rfl rfl rfl (by decide +kernel) ⟨(Nat.le_of_ble_eq_true rfl), (Nat.le_of_ble_eq_true rfl)⟩) (gx_rpreV (ci := 4) (hP.sub (ws' := (wdPa_packedOf q_palette q_palette_levels c_palette_levels n_palette_levels f_palette_size f_palette_levels)) [5, 6] rfl) (hK.sub (tys' := [(c_palette_levels, .int)]) [3] rfl) hZ hS hA rfl rfl) rfl rfl hl.1 rfl (lv_room (Nat.le_of_ble_eq_true rfl)) dFi_takeClosest_76 ⟨(Nat.le_of_ble_eq_true rfl), (Nat.le_of_ble_eq_true rfl)⟩) hP hS hA (fun r_17 H locs hv hP hS => ?_)
      refine gx_ri (va_runSN (As := [.int v6_3, .int r_17]) (rest := [.long ((f_shades_many v5.toNatClampNeg).toInt64), .long v3]) ⟨hx, hb, hml, hown, hB⟩ (metCL_farApart l dC dI H.size v6_3 r_17 hv) ⟨va_cnB 2 hB (gx_gN bw455) rfl rfl rfl (hZ.1 _ (List.mem_of_getElem? (i := 21) rfl)) (hB _ bw44) (by decide +kernel) ⟨(Nat.le_of_ble_eq_true rfl), (Nat.le_of_ble_eq_true rfl)⟩, (hB _ bw454), trivial⟩ (gx_rpreS (hP.sub (ws' := wdCL_farApart) [] rfl) (hK.sub (tys' := []) [] rfl) hZ hS hA) rfl rfl hl.1 rfl (lv_room (Nat.le_of_ble_eq_true rfl)) dFi_takeClosest_79 ⟨(Nat.le_of_ble_eq_true rfl), (Nat.le_of_ble_eq_true rfl)⟩) hP hS hA (fun r_19 H locs hv hP hS => ?_)
      refine lv_i2l hx hb dFi_takeClosest_82 rfl ?_
      refine lv_lmul hx hb dFi_takeClosest_83 ?_
      refine lv_ladd hx hb dFi_takeClosest_84 ?_
      refine lv_topl (fun v3_21 ev3_21 => ?_)
      have hv := hv v3_21 ev3_21
      refine lv_lstore_n (lv' := [(3, .long v3_21), (7, .int r_12), (6, .int v6_3), (0, .ref q_this), (1, .ref q_shades), (2, .ref q_palette), (5, .int v5)]) hx hb dFi_takeClosest_85 rfl hl (by decide) rfl (fun ls hl => ?_)
      refine lv_iinc (v := v5 + 1) (lv' := [(5, .int (v5 + 1)), (3, .long v3_21), (7, .int r_12), (6, .int v6_3), (0, .ref q_this), (1, .ref q_shades), (2, .ref q_palette)]) hx hb dFi_takeClosest_86 hl (k := 6) rfl rfl (by decide) rfl (fun ls hl => ?_)
      refine lv_goto (tgt := 5) hx hb dFi_takeClosest_89 (by decide) ?_
      rw [eK5, eG] at hv
      exact hv _ _ _ hP hD hS (lv_sub hl [4, 5, 6, 1, 0] rfl))
  rw [eG]
  refine lv_lconst (v := 0) hx hb dFi_takeClosest_0 (by decide) ?_
  refine lv_lstore_n (lv' := [(3, .long 0), (0, .ref q_this), (1, .ref q_shades), (2, .ref q_palette)]) hx hb dFi_takeClosest_1 rfl hl (by decide) rfl (fun ls hl => ?_)
  refine lv_iconst (v := 0) hx hb dFi_takeClosest_2 (by decide) ?_
  refine lv_istore (lv' := [(5, .int 0), (3, .long 0), (0, .ref q_this), (1, .ref q_shades), (2, .ref q_palette)]) hx hb dFi_takeClosest_3 hl (by decide) rfl (fun ls hl => ?_)
  rw [eK5, eG] at hv
  exact hv _ _ _ hP hD hS (lv_sub hl [2, 3, 4, 1, 0] rfl)
abbrev wdPo_meanLevel (q_this q_totals q_many r_means : Nat) (c_totals c_many : ClassId) (n_totals n_many : Nat) (f_size : Int32) (f_totals : Nat → Int32) (f_many : Nat → Int32) : va_W := [(q_this, .inr (5, [.ref q_totals, .ref q_many, .ref r_means, .int f_size])), (q_totals, .inl (c_totals, n_totals, .inl f_totals)), (q_many, .inl (c_many, n_many, .inl f_many))]
set_option maxHeartbeats 4000000 in
set_option maxRecDepth 100000 in
theorem metPo_meanLevel (l : Launch) (dC : Nat → ClassId) (dI : Nat → Nat → Nat) (q_this q_totals q_many r_means : Nat) (c_totals c_many : ClassId) (n_totals n_many : Nat) (sz : Nat) (f_size : Int32) (f_totals : Nat → Int32) (f_many : Nat → Int32) (x1 : Int32) (x2 : Int32) {post : Int32 → Prop} (hw : wpPo_meanLevel n_totals n_many f_size f_totals f_many x1 x2 post) : Met l yPo_meanLevel (.code yPo_meanLevel bPo_meanLevel 3 (some .int) :: BIG) ({ frames := 0, cells := 0, slots := 0, locals := 0 }) (va_Pc [.ref q_this, .int x1, .int x2] (gx_rpre (dC, dI) vwCl (wdPo_meanLevel q_this q_totals q_many r_means c_totals c_many n_totals n_many f_size f_totals f_many) [(c_totals, .int), (c_many, .int)] sz)) (va_Qi (fun r (u : Unit) => post r ) (fun _ _ => True) (fun q : Nat => sz ≤ q)) 0 0 (fun q : Nat => sz ≤ q) := by
  refine Met.ofW (cc := bPo_meanLevel) (maxL := 3) (ret := (some .int)) (by decide) rfl ?_
  intro p e s m args below meth c s₁ B hml hv
  obtain ⟨rfl, hsz, hP, hK, hZ⟩ := hv
  have hx := B.exec
  have hb := B.bytes
  have hr := B.returns
  have hts := atoms_spec (ws := (.code yPo_meanLevel bPo_meanLevel 3 (some .int) :: BIG)) B.pre
  have hB : ∀ w ∈ BIG, w.before _ s = true := fun w h => hts w (List.mem_cons_of_mem _ h)
  have hown : s.vm.findClass RPo = some m.cls := findClass_of_methodNamed B.named
  have hlocks := B.notSynchronized
  subst hsz
  have hA : ∀ q : Nat, s.heap.size ≤ q → (fun q : Nat => s.heap.size ≤ q) q := fun _ h => h
  have hS : va_S (fun q : Nat => s.heap.size ≤ q) s.heap s.heap [] := va_S.rf
  have hl := lv_entry ([.ref q_this, .int x1, .int x2]) (n := 3) (Nat.le_of_ble_eq_true rfl)
  rw [lg_entry_eq]
  generalize (lg_sl ([.ref q_this, .int x1, .int x2]) ++ List.replicate (3 - (lg_sl ([.ref q_this, .int x1, .int x2])).length) Slot.unset).toArray = ls at hl ⊢
  have hl : lv_has ls 3 [(0, .ref q_this), (1, .int x1), (2, .int x2)] := hl
  have hL9 := (hB _ bw136)
  have hL15 := (hB _ bw137)
  unfold wpPo_meanLevel at hw
  have hv := hw
  refine lv_aload_n hx hb dPo_meanLevel_0 rfl (lv_at hl 0 rfl) ?_
  refine va_get (D := (dC, dI)) (ci := 5) (v := .ref q_many) (C := RPo) (T := TPo) (N := 4) hx hb hB hiPo hown hK hP 0 rfl rfl 1 (by decide) hL15 (fun _ h9 => h9) rfl dPo_meanLevel_1 ?_
  refine lv_iload_n hx hb dPo_meanLevel_4 rfl (lv_at hl 1 rfl) ?_
  obtain ⟨h_1, hv⟩ := hv
  refine va_iald hx hb hK hP 2 1 rfl rfl h_1 dPo_meanLevel_5 ?_
  refine lv_if_gt (tgt := 11) hx hb dPo_meanLevel_6 (by decide) (fun c_2 => ?_) (fun c_2 => ?_)
  · have hv := hv.1 c_2
    refine lv_iconst (v := 2) hx hb dPo_meanLevel_11 (by decide) ?_
    refine lv_aload_n hx hb dPo_meanLevel_12 rfl (lv_at hl 0 rfl) ?_
    refine va_get (D := (dC, dI)) (ci := 5) (v := .ref q_totals) (C := RPo) (T := TPo) (N := 4) hx hb hB hiPo hown hK hP 0 rfl rfl 0 (by decide) hL9 (fun _ h9 => h9) rfl dPo_meanLevel_13 ?_
    refine lv_iload_n hx hb dPo_meanLevel_16 rfl (lv_at hl 1 rfl) ?_
    refine lv_iconst (v := 4) hx hb dPo_meanLevel_17 (by decide) ?_
    refine lv_imul hx hb dPo_meanLevel_18 ?_
    refine lv_iload_n hx hb dPo_meanLevel_19 rfl (lv_at hl 2 rfl) ?_
    refine lv_iadd hx hb dPo_meanLevel_20 ?_
    obtain ⟨h_3, hv⟩ := hv
    refine va_iald hx hb hK hP 1 0 rfl rfl h_3 dPo_meanLevel_21 ?_
    refine lv_imul hx hb dPo_meanLevel_22 ?_
    refine lv_aload_n hx hb dPo_meanLevel_23 rfl (lv_at hl 0 rfl) ?_
    refine va_get (D := (dC, dI)) (ci := 5) (v := .ref q_many) (C := RPo) (T := TPo) (N := 4) hx hb hB hiPo hown hK hP 0 rfl rfl 1 (by decide) hL15 (fun _ h9 => h9) rfl dPo_meanLevel_24 ?_
    refine lv_iload_n hx hb dPo_meanLevel_27 rfl (lv_at hl 1 rfl) ?_
    obtain ⟨h_4, hv⟩ := hv
    refine va_iald hx hb hK hP 2 1 rfl rfl h_4 dPo_meanLevel_28 ?_
    refine lv_iadd hx hb dPo_meanLevel_29 ?_
    refine lv_iconst (v := 2) hx hb dPo_meanLevel_30 (by decide) ?_
    refine lv_aload_n hx hb dPo_meanLevel_31 rfl (lv_at hl 0 rfl) ?_
    refine va_get (D := (dC, dI)) (ci := 5) (v := .ref q_many) (C := RPo) (T := TPo) (N := 4) hx hb hB hiPo hown hK hP 0 rfl rfl 1 (by decide) hL15 (fun _ h9 => h9) rfl dPo_meanLevel_32 ?_
    refine lv_iload_n hx hb dPo_meanLevel_35 rfl (lv_at hl 1 rfl) ?_
    obtain ⟨h_5, hv⟩ := hv
    refine va_iald hx hb hK hP 2 1 rfl rfl h_5 dPo_meanLevel_36 ?_
    refine lv_imul hx hb dPo_meanLevel_37 ?_
    obtain ⟨h_6, hv⟩ := hv
    refine lv_idiv hx hb dPo_meanLevel_38 h_6 ?_
    exact W.iret (v := ((2 * (f_totals ((x1 * 4) + x2).toNatClampNeg)) + (f_many x1.toNatClampNeg)) / (2 * (f_many x1.toNatClampNeg))) hx hb hr (fun t ht hW => ⟨⟨_, (), rfl, hv, trivial⟩, hS.F ht⟩) hS.2.2 dPo_meanLevel_39
  · have hv := hv.2 c_2
    refine lv_iconst (v := 0) hx hb dPo_meanLevel_9 (by decide) ?_
    exact W.iret (v := 0) hx hb hr (fun t ht hW => ⟨⟨_, (), rfl, hv, trivial⟩, hS.F ht⟩) hS.2.2 dPo_meanLevel_10
abbrev wdPo_meanOf (q_this q_totals q_many r_means : Nat) (c_totals c_many : ClassId) (n_totals n_many : Nat) (f_size : Int32) (f_totals : Nat → Int32) (f_many : Nat → Int32) : va_W := [(q_this, .inr (5, [.ref q_totals, .ref q_many, .ref r_means, .int f_size])), (q_totals, .inl (c_totals, n_totals, .inl f_totals)), (q_many, .inl (c_many, n_many, .inl f_many))]
set_option maxHeartbeats 4000000 in
set_option maxRecDepth 100000 in
theorem metPo_meanOf (l : Launch) (dC : Nat → ClassId) (dI : Nat → Nat → Nat) (q_this q_totals q_many r_means : Nat) (c_totals c_many : ClassId) (n_totals n_many : Nat) (sz : Nat) (f_size : Int32) (f_totals : Nat → Int32) (f_many : Nat → Int32) (x1 : Int32) {post : Int32 → Prop} (hw : wpPo_meanOf n_totals n_many f_size f_totals f_many x1 post) : Met l yPo_meanOf (.code yPo_meanOf bPo_meanOf 2 (some .int) :: BIG) ({ frames := 1, cells := 0, slots := 0, locals := 23 }) (va_Pc [.ref q_this, .int x1] (gx_rpre (dC, dI) vwCl (wdPo_meanOf q_this q_totals q_many r_means c_totals c_many n_totals n_many f_size f_totals f_many) [(c_totals, .int), (c_many, .int)] sz)) (va_Qi (fun r (u : Unit) => post r ) (fun _ _ => True) (fun q : Nat => sz ≤ q)) 0 0 (fun q : Nat => sz ≤ q) := by
  refine Met.ofW (cc := bPo_meanOf) (maxL := 2) (ret := (some .int)) (by decide) rfl ?_
  intro p e s m args below meth c s₁ B hml hv
  obtain ⟨rfl, hsz, hP, hK, hZ⟩ := hv
  have hx := B.exec
  have hb := B.bytes
  have hr := B.returns
  have hts := atoms_spec (ws := (.code yPo_meanOf bPo_meanOf 2 (some .int) :: BIG)) B.pre
  have hB : ∀ w ∈ BIG, w.before _ s = true := fun w h => hts w (List.mem_cons_of_mem _ h)
  have hown : s.vm.findClass RPo = some m.cls := findClass_of_methodNamed B.named
  have hlocks := B.notSynchronized
  subst hsz
  have hA : ∀ q : Nat, s.heap.size ≤ q → (fun q : Nat => s.heap.size ≤ q) q := fun _ h => h
  have hS : va_S (fun q : Nat => s.heap.size ≤ q) s.heap s.heap [] := va_S.rf
  have hl := lv_entry ([.ref q_this, .int x1]) (n := 2) (Nat.le_of_ble_eq_true rfl)
  rw [lg_entry_eq]
  generalize (lg_sl ([.ref q_this, .int x1]) ++ List.replicate (2 - (lg_sl ([.ref q_this, .int x1])).length) Slot.unset).toArray = ls at hl ⊢
  have hl : lv_has ls 2 [(0, .ref q_this), (1, .int x1)] := hl
  unfold wpPo_meanOf at hw
  have hv := hw
  refine lv_aload_n hx hb dPo_meanOf_0 rfl (lv_at hl 0 rfl) ?_
  refine lv_iload_n hx hb dPo_meanOf_1 rfl (lv_at hl 1 rfl) ?_
  refine lv_iconst (v := 0) hx hb dPo_meanOf_2 (by decide) ?_
  refine gx_ri (va_runV (As := [.int x1, .int 0]) (rest := []) ⟨hx, hb, hml, hown, hB⟩ (metPo_meanLevel l dC dI q_this q_totals q_many r_means c_totals c_many n_totals n_many s.heap.size f_size f_totals f_many x1 0 hv) (cwV 2 hB (gx_gV bw444 bw445 bw12 bw48 bw446) rfl rfl rfl (by decide +kernel) ⟨(Nat.le_of_ble_eq_true rfl), (Nat.le_of_ble_eq_true rfl)⟩) (gx_rpreV (ci := 5) (hP.sub (ws' := (wdPo_meanLevel q_this q_totals q_many r_means c_totals c_many n_totals n_many f_size f_totals f_many)) [0, 1, 2] rfl) (hK.sub (tys' := [(c_totals, .int), (c_many, .int)]) [0, 1] rfl) hZ hS hA rfl rfl) rfl rfl hl.1 rfl (lv_room (Nat.le_of_ble_eq_true rfl)) dPo_meanOf_3 ⟨(Nat.le_of_ble_eq_true rfl), (Nat.le_of_ble_eq_true rfl)⟩) hP hS hA (fun r_1 H locs hv hP hS => ?_)
  refine lv_aload_n hx hb dPo_meanOf_6 rfl (lv_at hl 0 rfl) ?_
  refine lv_iload_n hx hb dPo_meanOf_7 rfl (lv_at hl 1 rfl) ?_
  refine lv_iconst (v := 1) hx hb dPo_meanOf_8 (by decide) ?_
  refine gx_ri (va_runV (As := [.int x1, .int 1]) (rest := [.int r_1]) ⟨hx, hb, hml, hown, hB⟩ (metPo_meanLevel l dC dI q_this q_totals q_many r_means c_totals c_many n_totals n_many H.size f_size f_totals f_many x1 1 hv) (cwV 2 hB (gx_gV bw444 bw445 bw12 bw48 bw446) rfl rfl rfl (by decide +kernel) ⟨(Nat.le_of_ble_eq_true rfl), (Nat.le_of_ble_eq_true rfl)⟩) (gx_rpreV (ci := 5) (hP.sub (ws' := (wdPo_meanLevel q_this q_totals q_many r_means c_totals c_many n_totals n_many f_size f_totals f_many)) [0, 1, 2] rfl) (hK.sub (tys' := [(c_totals, .int), (c_many, .int)]) [0, 1] rfl) hZ hS hA rfl rfl) rfl rfl hl.1 rfl (lv_room (Nat.le_of_ble_eq_true rfl)) dPo_meanOf_9 ⟨(Nat.le_of_ble_eq_true rfl), (Nat.le_of_ble_eq_true rfl)⟩) hP hS hA (fun r_3 H locs hv hP hS => ?_)
  refine lv_aload_n hx hb dPo_meanOf_12 rfl (lv_at hl 0 rfl) ?_
  refine lv_iload_n hx hb dPo_meanOf_13 rfl (lv_at hl 1 rfl) ?_
  refine lv_iconst (v := 2) hx hb dPo_meanOf_14 (by decide) ?_
  refine gx_ri (va_runV (As := [.int x1, .int 2]) (rest := [.int r_3, .int r_1]) ⟨hx, hb, hml, hown, hB⟩ (metPo_meanLevel l dC dI q_this q_totals q_many r_means c_totals c_many n_totals n_many H.size f_size f_totals f_many x1 2 hv) (cwV 2 hB (gx_gV bw444 bw445 bw12 bw48 bw446) rfl rfl rfl (by decide +kernel) ⟨(Nat.le_of_ble_eq_true rfl), (Nat.le_of_ble_eq_true rfl)⟩) (gx_rpreV (ci := 5) (hP.sub (ws' := (wdPo_meanLevel q_this q_totals q_many r_means c_totals c_many n_totals n_many f_size f_totals f_many)) [0, 1, 2] rfl) (hK.sub (tys' := [(c_totals, .int), (c_many, .int)]) [0, 1] rfl) hZ hS hA rfl rfl) rfl rfl hl.1 rfl (lv_room (Nat.le_of_ble_eq_true rfl)) dPo_meanOf_15 ⟨(Nat.le_of_ble_eq_true rfl), (Nat.le_of_ble_eq_true rfl)⟩) hP hS hA (fun r_5 H locs hv hP hS => ?_)
  refine lv_aload_n hx hb dPo_meanOf_18 rfl (lv_at hl 0 rfl) ?_
  refine lv_iload_n hx hb dPo_meanOf_19 rfl (lv_at hl 1 rfl) ?_
  refine lv_iconst (v := 3) hx hb dPo_meanOf_20 (by decide) ?_
  refine gx_ri (va_runV (As := [.int x1, .int 3]) (rest := [.int r_5, .int r_3, .int r_1]) ⟨hx, hb, hml, hown, hB⟩ (metPo_meanLevel l dC dI q_this q_totals q_many r_means c_totals c_many n_totals n_many H.size f_size f_totals f_many x1 3 hv) (cwV 2 hB (gx_gV bw444 bw445 bw12 bw48 bw446) rfl rfl rfl (by decide +kernel) ⟨(Nat.le_of_ble_eq_true rfl), (Nat.le_of_ble_eq_true rfl)⟩) (gx_rpreV (ci := 5) (hP.sub (ws' := (wdPo_meanLevel q_this q_totals q_many r_means c_totals c_many n_totals n_many f_size f_totals f_many)) [0, 1, 2] rfl) (hK.sub (tys' := [(c_totals, .int), (c_many, .int)]) [0, 1] rfl) hZ hS hA rfl rfl) rfl rfl hl.1 rfl (lv_room (Nat.le_of_ble_eq_true rfl)) dPo_meanOf_21 ⟨(Nat.le_of_ble_eq_true rfl), (Nat.le_of_ble_eq_true rfl)⟩) hP hS hA (fun r_7 H locs hv hP hS => ?_)
  refine gx_ri (va_runSN (As := [.int r_1, .int r_3, .int r_5, .int r_7]) (rest := []) ⟨hx, hb, hml, hown, hB⟩ (metCL_packed l dC dI H.size r_1 r_3 r_5 r_7 hv) ⟨va_cnB 4 hB (gx_gN bw351) rfl rfl rfl (hZ.1 _ (List.mem_of_getElem? (i := 16) rfl)) (hB _ bw44) (by decide +kernel) ⟨(Nat.le_of_ble_eq_true rfl), (Nat.le_of_ble_eq_true rfl)⟩, (hB _ bw350), trivial⟩ (gx_rpreS (hP.sub (ws' := wdCL_packed) [] rfl) (hK.sub (tys' := []) [] rfl) hZ hS hA) rfl rfl hl.1 rfl (lv_room (Nat.le_of_ble_eq_true rfl)) dPo_meanOf_24 ⟨(Nat.le_of_ble_eq_true rfl), (Nat.le_of_ble_eq_true rfl)⟩) hP hS hA (fun r_9 H locs hv hP hS => ?_)
  exact W.iret (v := r_9) hx hb hr (fun t ht hW => ⟨⟨_, (), rfl, hv, trivial⟩, hS.F ht⟩) hS.2.2 dPo_meanOf_27
abbrev wdPa_replace (q_this q_levels : Nat) (c_levels : ClassId) (n_levels : Nat) (f_size : Int32) (f_levels : Nat → Int32) : va_W := [(q_this, .inr (4, [.ref q_levels, .int f_size])), (q_levels, .inl (c_levels, n_levels, .inl f_levels))]
set_option maxHeartbeats 4000000 in
set_option maxRecDepth 100000 in
theorem metPa_replace (l : Launch) (dC : Nat → ClassId) (dI : Nat → Nat → Nat) (q_this q_levels : Nat) (c_levels : ClassId) (n_levels : Nat) (sz : Nat) (f_size : Int32) (f_levels : Nat → Int32) (x1 : Int32) (x2 : Int32) {post : (Nat → Int32) → Prop} (hw : wpPa_replace n_levels f_size f_levels x1 x2 post) : Met l yPa_replace (.code yPa_replace bPa_replace 4 none :: BIG) ({ frames := 1, cells := 0, slots := 0, locals := 21 }) (va_Pc [.ref q_this, .int x1, .int x2] (gx_pre (dC, dI) vwCl (wdPa_replace q_this q_levels c_levels n_levels f_size f_levels) [(c_levels, .int)] sz)) (va_Qv (fun (u : (Nat → Int32)) => post u) (gx_B (dC, dI) vwCl (va_A (wdPa_replace q_this q_levels c_levels n_levels f_size f_levels) sz) (fun (u : (Nat → Int32)) => (wdPa_replace q_this q_levels c_levels n_levels f_size u))) (va_A (wdPa_replace q_this q_levels c_levels n_levels f_size f_levels) sz)) 0 0 (va_A (wdPa_replace q_this q_levels c_levels n_levels f_size f_levels) sz) := by
  refine Met.ofW (cc := bPa_replace) (maxL := 4) (ret := none) (by decide) rfl ?_
  intro p e s m args below meth c s₁ B hml hv
  obtain ⟨rfl, hsz, hP, hK, hD0, hZ⟩ := hv
  have hx := B.exec
  have hb := B.bytes
  have hr := B.returns
  have hts := atoms_spec (ws := (.code yPa_replace bPa_replace 4 none :: BIG)) B.pre
  have hB : ∀ w ∈ BIG, w.before _ s = true := fun w h => hts w (List.mem_cons_of_mem _ h)
  have hown : s.vm.findClass RPa = some m.cls := findClass_of_methodNamed B.named
  have hlocks := B.notSynchronized
  subst hsz
  have hD := hD0.self (sz := s.heap.size)
  generalize hAe : va_A (wdPa_replace q_this q_levels c_levels n_levels f_size f_levels) s.heap.size = A at hD hZ ⊢
  have hA : ∀ q : Nat, s.heap.size ≤ q → A q := fun q h => by rw [← hAe]; exact Or.inr h
  have hS : va_S A s.heap s.heap [] := va_S.rf
  have hl := lv_entry ([.ref q_this, .int x1, .int x2]) (n := 4) (Nat.le_of_ble_eq_true rfl)
  rw [lg_entry_eq]
  generalize (lg_sl ([.ref q_this, .int x1, .int x2]) ++ List.replicate (4 - (lg_sl ([.ref q_this, .int x1, .int x2])).length) Slot.unset).toArray = ls at hl ⊢
  have hl : lv_has ls 4 [(0, .ref q_this), (1, .int x1), (2, .int x2)] := hl
  have hL9 := (hB _ bw163)
  refine gx_abs (fun G eG => ?_)
  obtain ⟨K2, eK2⟩ : ∃ K : Int32 → (Nat → Int32) → Prop, K = fun v3 f_levels => ∀ (H : Heap) (locs : List Loc) (ls : Array Slot), va_P (dC, dI) vwCl (wdPa_replace q_this q_levels c_levels n_levels f_size f_levels) H → va_D A (wdPa_replace q_this q_levels c_levels n_levels f_size f_levels) → va_S A s.heap H locs → lv_has ls 4 [(0, .ref q_this), (1, .int x1), (2, .int x2), (3, .int v3)] → G H locs 0 0 (F0 m 2 ls []) := ⟨_, rfl⟩
  unfold wpPa_replace at hw
  have hv := hw K2
  have hv := hv (by
    intro v3 f_levels hv
    rw [eK2]
    intro H locs ls hP hD hS hl
    rw [eG]
    unfold vcPa_replace_2 at hv
    refine lv_iload_n hx hb dPa_replace_2 rfl (lv_at hl 3 rfl) ?_
    refine lv_iconst (v := 4) hx hb dPa_replace_3 (by decide) ?_
    refine lv_icmp_ge (tgt := 28) hx hb dPa_replace_4 (by decide) (fun c_1 => ?_) (fun c_1 => ?_)
    · have hv := hv.1 c_1
      exact W.vret hx hb hr (fun t ht hW => ⟨⟨f_levels, rfl, hv, by rw [ht]; exact hP, hD⟩, hS.F ht⟩) hS.2.2 dPa_replace_28
    · have hv := hv.2 c_1
      refine lv_aload_n hx hb dPa_replace_7 rfl (lv_at hl 0 rfl) ?_
      refine va_get (D := (dC, dI)) (ci := 4) (v := .ref q_levels) (C := RPa) (T := TPa) (N := 2) hx hb hB hiPa hown hK hP 0 rfl rfl 0 (by decide) hL9 (fun _ h9 => h9) rfl dPa_replace_8 ?_
      refine lv_iload_n hx hb dPa_replace_11 rfl (lv_at hl 1 rfl) ?_
      refine lv_iconst (v := 4) hx hb dPa_replace_12 (by decide) ?_
      refine lv_imul hx hb dPa_replace_13 ?_
      refine lv_iload_n hx hb dPa_replace_14 rfl (lv_at hl 3 rfl) ?_
      refine lv_iadd hx hb dPa_replace_15 ?_
      refine lv_iload_n hx hb dPa_replace_16 rfl (lv_at hl 2 rfl) ?_
      refine lv_iload_n hx hb dPa_replace_17 rfl (lv_at hl 3 rfl) ?_
      refine gx_ri (va_runSN (As := [.int x2, .int v3]) (rest := [.int ((x1 * 4) + v3), .ref q_levels]) ⟨hx, hb, hml, hown, hB⟩ (metCL_levelOf l dC dI H.size x2 v3 hv) ⟨va_cnB 2 hB (gx_gN bw364) rfl rfl rfl (hZ.1 _ (List.mem_of_getElem? (i := 12) rfl)) (hB _ bw44) (by decide +kernel) ⟨(Nat.le_of_ble_eq_true rfl), (Nat.le_of_ble_eq_true rfl)⟩, (hB _ bw363), trivial⟩ (gx_rpreS (hP.sub (ws' := wdCL_levelOf) [] rfl) (hK.sub (tys' := []) [] rfl) hZ hS hA) rfl rfl hl.1 rfl (lv_room (Nat.le_of_ble_eq_true rfl)) dPa_replace_18 ⟨(Nat.le_of_ble_eq_true rfl), (Nat.le_of_ble_eq_true rfl)⟩) hP hS hA (fun r_2 H locs hv hP hS => ?_)
      obtain ⟨h_4, hv⟩ := hv
      refine va_iast hx hb hK hP hD hS 1 0 rfl rfl h_4 dPa_replace_21 (fun H locs hP hD hS => ?_)
      have hP : va_P (dC, dI) vwCl (wdPa_replace q_this q_levels c_levels n_levels f_size (upd f_levels ((x1 * 4) + v3).toNatClampNeg r_2)) H := hP
      have hD : va_D A (wdPa_replace q_this q_levels c_levels n_levels f_size (upd f_levels ((x1 * 4) + v3).toNatClampNeg r_2)) := hD
      refine lv_iinc (v := v3 + 1) (lv' := [(3, .int (v3 + 1)), (0, .ref q_this), (1, .int x1), (2, .int x2)]) hx hb dPa_replace_22 hl (k := 3) rfl rfl (by decide) rfl (fun ls hl => ?_)
      refine lv_goto (tgt := 2) hx hb dPa_replace_25 (by decide) ?_
      rw [eK2, eG] at hv
      exact hv _ _ _ hP hD hS (lv_sub hl [1, 2, 3, 0] rfl))
  rw [eG]
  refine lv_iconst (v := 0) hx hb dPa_replace_0 (by decide) ?_
  refine lv_istore_n (lv' := [(3, .int 0), (0, .ref q_this), (1, .int x1), (2, .int x2)]) hx hb dPa_replace_1 rfl hl (by decide) rfl (fun ls hl => ?_)
  rw [eK2, eG] at hv
  exact hv _ _ _ hP hD hS (lv_sub hl [1, 2, 3, 0] rfl)
abbrev wdFi_moveToMeans (q_this q_taken q_shades q_shades_tint q_shades_many q_palette q_palette_levels q_pools q_pools_totals q_pools_many r_missed r_takers r_keys r_shades_rank r_shades_keys r_pools_means : Nat) (c_taken c_shades_tint c_shades_many c_palette_levels c_pools_totals c_pools_many : ClassId) (n_taken n_shades_tint n_shades_many n_palette_levels n_pools_totals n_pools_many : Nat) (f_rounds : Int32) (f_taken : Nat → Int32) (f_shades_size : Int32) (f_shades_stale : Int32) (f_shades_tint : Nat → Int32) (f_shades_many : Nat → Int32) (f_palette_size : Int32) (f_palette_levels : Nat → Int32) (f_pools_size : Int32) (f_pools_totals : Nat → Int32) (f_pools_many : Nat → Int32) : va_W := [(q_this, .inr (2, [.ref q_taken, .ref r_missed, .ref r_takers, .ref r_keys, .int f_rounds])), (q_taken, .inl (c_taken, n_taken, .inl f_taken)), (q_shades, .inr (6, [.ref q_shades_tint, .ref q_shades_many, .ref r_shades_rank, .ref r_shades_keys, .int f_shades_size, .int f_shades_stale])), (q_shades_tint, .inl (c_shades_tint, n_shades_tint, .inl f_shades_tint)), (q_shades_many, .inl (c_shades_many, n_shades_many, .inl f_shades_many)), (q_palette, .inr (4, [.ref q_palette_levels, .int f_palette_size])), (q_palette_levels, .inl (c_palette_levels, n_palette_levels, .inl f_palette_levels)), (q_pools, .inr (5, [.ref q_pools_totals, .ref q_pools_many, .ref r_pools_means, .int f_pools_size])), (q_pools_totals, .inl (c_pools_totals, n_pools_totals, .inl f_pools_totals)), (q_pools_many, .inl (c_pools_many, n_pools_many, .inl f_pools_many))]
set_option maxHeartbeats 4000000 in
set_option maxRecDepth 100000 in
theorem metFi_moveToMeans (l : Launch) (dC : Nat → ClassId) (dI : Nat → Nat → Nat) (q_this q_taken q_shades q_shades_tint q_shades_many q_palette q_palette_levels q_pools q_pools_totals q_pools_many r_missed r_takers r_keys r_shades_rank r_shades_keys r_pools_means : Nat) (c_taken c_shades_tint c_shades_many c_palette_levels c_pools_totals c_pools_many : ClassId) (n_taken n_shades_tint n_shades_many n_palette_levels n_pools_totals n_pools_many : Nat) (sz : Nat) (f_rounds : Int32) (f_taken : Nat → Int32) (f_shades_size : Int32) (f_shades_stale : Int32) (f_shades_tint : Nat → Int32) (f_shades_many : Nat → Int32) (f_palette_size : Int32) (f_palette_levels : Nat → Int32) (f_pools_size : Int32) (f_pools_totals : Nat → Int32) (f_pools_many : Nat → Int32) {post : Int32 → (Nat → Int32) → Int32 → (Nat → Int32) → (Nat → Int32) → Prop} (hw : wpFi_moveToMeans n_taken n_shades_tint n_shades_many n_palette_levels n_pools_totals n_pools_many f_rounds f_taken f_shades_size f_shades_stale f_shades_tint f_shades_many f_palette_size f_palette_levels f_pools_size f_pools_totals f_pools_many post) : Met l yFi_moveToMeans (.code yFi_moveToMeans bFi_moveToMeans 6 (some .boolean) :: BIG) ({ frames := 2, cells := 0, slots := 0, locals := 45 }) (va_Pc [.ref q_this, .ref q_shades, .ref q_palette, .ref q_pools] (gx_pre (dC, dI) vwCl (wdFi_moveToMeans q_this q_taken q_shades q_shades_tint q_shades_many q_palette q_palette_levels q_pools q_pools_totals q_pools_many r_missed r_takers r_keys r_shades_rank r_shades_keys r_pools_means c_taken c_shades_tint c_shades_many c_palette_levels c_pools_totals c_pools_many n_taken n_shades_tint n_shades_many n_palette_levels n_pools_totals n_pools_many f_rounds f_taken f_shades_size f_shades_stale f_shades_tint f_shades_many f_palette_size f_palette_levels f_pools_size f_pools_totals f_pools_many) [(c_taken, .int), (c_shades_tint, .int), (c_shades_many, .int), (c_palette_levels, .int), (c_pools_totals, .int), (c_pools_many, .int)] sz)) (va_Qi (fun r (u : (Nat → Int32) × Int32 × (Nat → Int32) × (Nat → Int32)) => post r u.1 u.2.1 u.2.2.1 u.2.2.2) (gx_B (dC, dI) vwCl (va_A (wdFi_moveToMeans q_this q_taken q_shades q_shades_tint q_shades_many q_palette q_palette_levels q_pools q_pools_totals q_pools_many r_missed r_takers r_keys r_shades_rank r_shades_keys r_pools_means c_taken c_shades_tint c_shades_many c_palette_levels c_pools_totals c_pools_many n_taken n_shades_tint n_shades_many n_palette_levels n_pools_totals n_pools_many f_rounds f_taken f_shades_size f_shades_stale f_shades_tint f_shades_many f_palette_size f_palette_levels f_pools_size f_pools_totals f_pools_many) sz) (fun (u : (Nat → Int32) × Int32 × (Nat → Int32) × (Nat → Int32)) => (wdFi_moveToMeans q_this q_taken q_shades q_shades_tint q_shades_many q_palette q_palette_levels q_pools q_pools_totals q_pools_many r_missed r_takers r_keys r_shades_rank r_shades_keys r_pools_means c_taken c_shades_tint c_shades_many c_palette_levels c_pools_totals c_pools_many n_taken n_shades_tint n_shades_many n_palette_levels n_pools_totals n_pools_many f_rounds f_taken f_shades_size f_shades_stale f_shades_tint f_shades_many f_palette_size u.1 u.2.1 u.2.2.1 u.2.2.2))) (va_A (wdFi_moveToMeans q_this q_taken q_shades q_shades_tint q_shades_many q_palette q_palette_levels q_pools q_pools_totals q_pools_many r_missed r_takers r_keys r_shades_rank r_shades_keys r_pools_means c_taken c_shades_tint c_shades_many c_palette_levels c_pools_totals c_pools_many n_taken n_shades_tint n_shades_many n_palette_levels n_pools_totals n_pools_many f_rounds f_taken f_shades_size f_shades_stale f_shades_tint f_shades_many f_palette_size f_palette_levels f_pools_size f_pools_totals f_pools_many) sz)) 0 0 (va_A (wdFi_moveToMeans q_this q_taken q_shades q_shades_tint q_shades_many q_palette q_palette_levels q_pools q_pools_totals q_pools_many r_missed r_takers r_keys r_shades_rank r_shades_keys r_pools_means c_taken c_shades_tint c_shades_many c_palette_levels c_pools_totals c_pools_many n_taken n_shades_tint n_shades_many n_palette_levels n_pools_totals n_pools_many f_rounds f_taken f_shades_size f_shades_stale f_shades_tint f_shades_many f_palette_size f_palette_levels f_pools_size f_pools_totals f_pools_many) sz) := by
  refine Met.ofW (cc := bFi_moveToMeans) (maxL := 6) (ret := (some .boolean)) (by decide) rfl ?_
  intro p e s m args below meth c s₁ B hml hv
  obtain ⟨rfl, hsz, hP, hK, hD0, hZ⟩ := hv
  have hx := B.exec
  have hb := B.bytes
  have hr := B.returns
  have hts := atoms_spec (ws := (.code yFi_moveToMeans bFi_moveToMeans 6 (some .boolean) :: BIG)) B.pre
  have hB : ∀ w ∈ BIG, w.before _ s = true := fun w h => hts w (List.mem_cons_of_mem _ h)
  have hown : s.vm.findClass RFi = some m.cls := findClass_of_methodNamed B.named
  have hlocks := B.notSynchronized
  subst hsz
  have hD := hD0.self (sz := s.heap.size)
  generalize hAe : va_A (wdFi_moveToMeans q_this q_taken q_shades q_shades_tint q_shades_many q_palette q_palette_levels q_pools q_pools_totals q_pools_many r_missed r_takers r_keys r_shades_rank r_shades_keys r_pools_means c_taken c_shades_tint c_shades_many c_palette_levels c_pools_totals c_pools_many n_taken n_shades_tint n_shades_many n_palette_levels n_pools_totals n_pools_many f_rounds f_taken f_shades_size f_shades_stale f_shades_tint f_shades_many f_palette_size f_palette_levels f_pools_size f_pools_totals f_pools_many) s.heap.size = A at hD hZ ⊢
  have hA : ∀ q : Nat, s.heap.size ≤ q → A q := fun q h => by rw [← hAe]; exact Or.inr h
  have hS : va_S A s.heap s.heap [] := va_S.rf
  have hl := lv_entry ([.ref q_this, .ref q_shades, .ref q_palette, .ref q_pools]) (n := 6) (Nat.le_of_ble_eq_true rfl)
  rw [lg_entry_eq]
  generalize (lg_sl ([.ref q_this, .ref q_shades, .ref q_palette, .ref q_pools]) ++ List.replicate (6 - (lg_sl ([.ref q_this, .ref q_shades, .ref q_palette, .ref q_pools])).length) Slot.unset).toArray = ls at hl ⊢
  have hl : lv_has ls 6 [(0, .ref q_this), (1, .ref q_shades), (2, .ref q_palette), (3, .ref q_pools)] := hl
  have hL22 := (hB _ bw178)
  have hL49 := (hB _ bw99)
  have hL54 := (hB _ bw90)
  have hL57 := (hB _ bw167)
  have hL74 := (hB _ bw87)
  have hL97 := (hB _ bw138)
  refine gx_abs (fun G eG => ?_)
  obtain ⟨K11, eK11⟩ : ∃ K : Int32 → (Nat → Int32) → Int32 → (Nat → Int32) → (Nat → Int32) → Prop, K = fun v4 f_palette_levels f_pools_size f_pools_totals f_pools_many => ∀ (H : Heap) (locs : List Loc) (ls : Array Slot), va_P (dC, dI) vwCl (wdFi_moveToMeans q_this q_taken q_shades q_shades_tint q_shades_many q_palette q_palette_levels q_pools q_pools_totals q_pools_many r_missed r_takers r_keys r_shades_rank r_shades_keys r_pools_means c_taken c_shades_tint c_shades_many c_palette_levels c_pools_totals c_pools_many n_taken n_shades_tint n_shades_many n_palette_levels n_pools_totals n_pools_many f_rounds f_taken f_shades_size f_shades_stale f_shades_tint f_shades_many f_palette_size f_palette_levels f_pools_size f_pools_totals f_pools_many) H → va_D A (wdFi_moveToMeans q_this q_taken q_shades q_shades_tint q_shades_many q_palette q_palette_levels q_pools q_pools_totals q_pools_many r_missed r_takers r_keys r_shades_rank r_shades_keys r_pools_means c_taken c_shades_tint c_shades_many c_palette_levels c_pools_totals c_pools_many n_taken n_shades_tint n_shades_many n_palette_levels n_pools_totals n_pools_many f_rounds f_taken f_shades_size f_shades_stale f_shades_tint f_shades_many f_palette_size f_palette_levels f_pools_size f_pools_totals f_pools_many) → va_S A s.heap H locs → lv_has ls 6 [(0, .ref q_this), (1, .ref q_shades), (2, .ref q_palette), (3, .ref q_pools), (4, .int v4)] → G H locs 0 0 (F0 m 11 ls []) := ⟨_, rfl⟩
  obtain ⟨K57, eK57⟩ : ∃ K : Int32 → Int32 → (Nat → Int32) → Int32 → (Nat → Int32) → (Nat → Int32) → Prop, K = fun v4 v5 f_palette_levels f_pools_size f_pools_totals f_pools_many => ∀ (H : Heap) (locs : List Loc) (ls : Array Slot), va_P (dC, dI) vwCl (wdFi_moveToMeans q_this q_taken q_shades q_shades_tint q_shades_many q_palette q_palette_levels q_pools q_pools_totals q_pools_many r_missed r_takers r_keys r_shades_rank r_shades_keys r_pools_means c_taken c_shades_tint c_shades_many c_palette_levels c_pools_totals c_pools_many n_taken n_shades_tint n_shades_many n_palette_levels n_pools_totals n_pools_many f_rounds f_taken f_shades_size f_shades_stale f_shades_tint f_shades_many f_palette_size f_palette_levels f_pools_size f_pools_totals f_pools_many) H → va_D A (wdFi_moveToMeans q_this q_taken q_shades q_shades_tint q_shades_many q_palette q_palette_levels q_pools q_pools_totals q_pools_many r_missed r_takers r_keys r_shades_rank r_shades_keys r_pools_means c_taken c_shades_tint c_shades_many c_palette_levels c_pools_totals c_pools_many n_taken n_shades_tint n_shades_many n_palette_levels n_pools_totals n_pools_many f_rounds f_taken f_shades_size f_shades_stale f_shades_tint f_shades_many f_palette_size f_palette_levels f_pools_size f_pools_totals f_pools_many) → va_S A s.heap H locs → lv_has ls 6 [(2, .ref q_palette), (3, .ref q_pools), (4, .int v4), (5, .int v5)] → G H locs 0 0 (F0 m 57 ls []) := ⟨_, rfl⟩
  have j106 : ∀ (v4 : Int32) (v5 : Int32) (f_palette_levels : Nat → Int32) (f_pools_size : Int32) (f_pools_totals : Nat → Int32) (f_pools_many : Nat → Int32), vcFi_moveToMeans_106 n_taken n_shades_tint n_shades_many n_palette_levels n_pools_totals n_pools_many f_rounds f_taken f_shades_size f_shades_stale f_shades_tint f_shades_many f_palette_size K11 K57 post v4 v5 f_palette_levels f_pools_size f_pools_totals f_pools_many → ∀ (H : Heap) (locs : List Loc) (ls : Array Slot), va_P (dC, dI) vwCl (wdFi_moveToMeans q_this q_taken q_shades q_shades_tint q_shades_many q_palette q_palette_levels q_pools q_pools_totals q_pools_many r_missed r_takers r_keys r_shades_rank r_shades_keys r_pools_means c_taken c_shades_tint c_shades_many c_palette_levels c_pools_totals c_pools_many n_taken n_shades_tint n_shades_many n_palette_levels n_pools_totals n_pools_many f_rounds f_taken f_shades_size f_shades_stale f_shades_tint f_shades_many f_palette_size f_palette_levels f_pools_size f_pools_totals f_pools_many) H → va_D A (wdFi_moveToMeans q_this q_taken q_shades q_shades_tint q_shades_many q_palette q_palette_levels q_pools q_pools_totals q_pools_many r_missed r_takers r_keys r_shades_rank r_shades_keys r_pools_means c_taken c_shades_tint c_shades_many c_palette_levels c_pools_totals c_pools_many n_taken n_shades_tint n_shades_many n_palette_levels n_pools_totals n_pools_many f_rounds f_taken f_shades_size f_shades_stale f_shades_tint f_shades_many f_palette_size f_palette_levels f_pools_size f_pools_totals f_pools_many) → va_S A s.heap H locs → lv_has ls 6 [(2, .ref q_palette), (3, .ref q_pools), (4, .int v4), (5, .int v5)] → G H locs 0 0 (F0 m 106 ls []) := by
    intro v4 v5 f_palette_levels f_pools_size f_pools_totals f_pools_many hv H locs ls hP hD hS hl
    rw [eG]
    unfold vcFi_moveToMeans_106 at hv
    refine lv_iinc (v := v5 + 1) (lv' := [(5, .int (v5 + 1)), (2, .ref q_palette), (3, .ref q_pools), (4, .int v4)]) hx hb dFi_moveToMeans_106 hl (k := 3) rfl rfl (by decide) rfl (fun ls hl => ?_)
    refine lv_goto (tgt := 57) hx hb dFi_moveToMeans_109 (by decide) ?_
    rw [eK57, eG] at hv
    exact hv _ _ _ hP hD hS (lv_sub hl [1, 2, 3, 0] rfl)
  rw [eG] at j106
  unfold wpFi_moveToMeans at hw
  have hv := hw K11 K57
  have hv := hv (by
    intro v4 f_palette_levels f_pools_size f_pools_totals f_pools_many hv
    rw [eK11]
    intro H locs ls hP hD hS hl
    rw [eG]
    unfold vcFi_moveToMeans_11 at hv
    refine lv_iload hx hb dFi_moveToMeans_11 (lv_at hl 4 rfl) ?_
    refine lv_aload_n hx hb dFi_moveToMeans_13 rfl (lv_at hl 1 rfl) ?_
    refine va_get (D := (dC, dI)) (ci := 6) (v := .int f_shades_size) (C := RSh) (T := TSh) (N := 6) hx hb hB hiSh hown hK hP 2 rfl rfl 4 (by decide) hL49 (fun _ h9 => h9) rfl dFi_moveToMeans_14 ?_
    refine lv_icmp_ge (tgt := 51) hx hb dFi_moveToMeans_17 (by decide) (fun c_1 => ?_) (fun c_1 => ?_)
    · have hv := hv.1 c_1
      refine lv_iconst (v := 0) hx hb dFi_moveToMeans_51 (by decide) ?_
      refine lv_istore (lv' := [(4, .int 0), (0, .ref q_this), (1, .ref q_shades), (2, .ref q_palette), (3, .ref q_pools)]) hx hb dFi_moveToMeans_52 hl (by decide) rfl (fun ls hl => ?_)
      refine lv_iconst (v := 0) hx hb dFi_moveToMeans_54 (by decide) ?_
      refine lv_istore (lv' := [(5, .int 0), (4, .int 0), (0, .ref q_this), (1, .ref q_shades), (2, .ref q_palette), (3, .ref q_pools)]) hx hb dFi_moveToMeans_55 hl (by decide) rfl (fun ls hl => ?_)
      rw [eK57, eG] at hv
      exact hv _ _ _ hP hD hS (lv_sub hl [4, 5, 1, 0] rfl)
    · have hv := hv.2 c_1
      refine lv_aload_n hx hb dFi_moveToMeans_20 rfl (lv_at hl 3 rfl) ?_
      refine lv_aload_n hx hb dFi_moveToMeans_21 rfl (lv_at hl 0 rfl) ?_
      refine va_get (D := (dC, dI)) (ci := 2) (v := .ref q_taken) (C := RFi) (T := TFi) (N := 5) hx hb hB hiFi hown hK hP 0 rfl rfl 0 (by decide) hL22 (fun _ h9 => h9) rfl dFi_moveToMeans_22 ?_
      refine lv_iload hx hb dFi_moveToMeans_25 (lv_at hl 4 rfl) ?_
      obtain ⟨h_2, hv⟩ := hv
      refine va_iald hx hb hK hP 1 0 rfl rfl h_2 dFi_moveToMeans_27 ?_
      refine lv_aload_n hx hb dFi_moveToMeans_28 rfl (lv_at hl 1 rfl) ?_
      refine va_get (D := (dC, dI)) (ci := 6) (v := .ref q_shades_tint) (C := RSh) (T := TSh) (N := 6) hx hb hB hiSh hown hK hP 2 rfl rfl 0 (by decide) hL74 (fun _ h9 => h9) rfl dFi_moveToMeans_29 ?_
      refine lv_iload hx hb dFi_moveToMeans_32 (lv_at hl 4 rfl) ?_
      obtain ⟨h_3, hv⟩ := hv
      refine va_iald hx hb hK hP 3 1 rfl rfl h_3 dFi_moveToMeans_34 ?_
      refine lv_aload_n hx hb dFi_moveToMeans_35 rfl (lv_at hl 1 rfl) ?_
      refine va_get (D := (dC, dI)) (ci := 6) (v := .ref q_shades_many) (C := RSh) (T := TSh) (N := 6) hx hb hB hiSh hown hK hP 2 rfl rfl 1 (by decide) hL54 (fun _ h9 => h9) rfl dFi_moveToMeans_36 ?_
      refine lv_iload hx hb dFi_moveToMeans_39 (lv_at hl 4 rfl) ?_
      obtain ⟨h_4, hv⟩ := hv
      refine va_iald hx hb hK hP 4 2 rfl rfl h_4 dFi_moveToMeans_41 ?_
      have hFc := va_free (wc := (wdPo_pour q_pools q_pools_totals q_pools_many r_pools_means c_pools_totals c_pools_many n_pools_totals n_pools_many f_pools_size f_pools_totals f_pools_many)) hD hS hA [7, 8, 9] rfl
      refine gx_v (wr := [(q_this, .inr (2, [.ref q_taken, .ref r_missed, .ref r_takers, .ref r_keys, .int f_rounds])), (q_taken, .inl (c_taken, n_taken, .inl f_taken)), (q_shades, .inr (6, [.ref q_shades_tint, .ref q_shades_many, .ref r_shades_rank, .ref r_shades_keys, .int f_shades_size, .int f_shades_stale])), (q_shades_tint, .inl (c_shades_tint, n_shades_tint, .inl f_shades_tint)), (q_shades_many, .inl (c_shades_many, n_shades_many, .inl f_shades_many)), (q_palette, .inr (4, [.ref q_palette_levels, .int f_palette_size])), (q_palette_levels, .inl (c_palette_levels, n_palette_levels, .inl f_palette_levels))]) (va_runV (As := [.int (f_taken v4.toNatClampNeg), .int (f_shades_tint v4.toNatClampNeg), .int (f_shades_many v4.toNatClampNeg)]) (rest := []) ⟨hx, hb, hml, hown, hB⟩ (metPo_pour l dC dI q_pools q_pools_totals q_pools_many r_pools_means c_pools_totals c_pools_many n_pools_totals n_pools_many H.size f_pools_size f_pools_totals f_pools_many (f_taken v4.toNatClampNeg) (f_shades_tint v4.toNatClampNeg) (f_shades_many v4.toNatClampNeg) hv) (cwV 3 hB (gx_gV bw491 bw431 bw432 bw48 bw433) rfl rfl rfl (by decide +kernel) ⟨(Nat.le_of_ble_eq_true rfl), (Nat.le_of_ble_eq_true rfl)⟩) (gx_preV (ci := 5) (hP.sub (ws' := (wdPo_pour q_pools q_pools_totals q_pools_many r_pools_means c_pools_totals c_pools_many n_pools_totals n_pools_many f_pools_size f_pools_totals f_pools_many)) [7, 8, 9] rfl) (hK.sub (tys' := [(c_pools_totals, .int), (c_pools_many, .int)]) [4, 5] rfl) (hD.sub (ws' := (wdPo_pour q_pools q_pools_totals q_pools_many r_pools_means c_pools_totals c_pools_many n_pools_totals n_pools_many f_pools_size f_pools_totals f_pools_many)) [7, 8, 9] (by decide) rfl) hZ hS hFc rfl rfl) rfl rfl hl.1 rfl (lv_room (Nat.le_of_ble_eq_true rfl)) dFi_moveToMeans_42 ⟨(Nat.le_of_ble_eq_true rfl), (Nat.le_of_ble_eq_true rfl)⟩) hP hD hS hFc [7, 8, 9] [0, 1, 2, 3, 4, 5, 6] rfl rfl (by decide) (by decide) (fun u_7 H locs hv hP hD hS => ?_)
      obtain ⟨f_pools_totals_5, f_pools_many_6⟩ := u_7
      have hP : va_P (dC, dI) vwCl (wdFi_moveToMeans q_this q_taken q_shades q_shades_tint q_shades_many q_palette q_palette_levels q_pools q_pools_totals q_pools_many r_missed r_takers r_keys r_shades_rank r_shades_keys r_pools_means c_taken c_shades_tint c_shades_many c_palette_levels c_pools_totals c_pools_many n_taken n_shades_tint n_shades_many n_palette_levels n_pools_totals n_pools_many f_rounds f_taken f_shades_size f_shades_stale f_shades_tint f_shades_many f_palette_size f_palette_levels f_pools_size f_pools_totals_5 f_pools_many_6) H := hP.sub [0, 1, 2, 3, 4, 5, 6, 7, 8, 9] rfl
      have hD : va_D A (wdFi_moveToMeans q_this q_taken q_shades q_shades_tint q_shades_many q_palette q_palette_levels q_pools q_pools_totals q_pools_many r_missed r_takers r_keys r_shades_rank r_shades_keys r_pools_means c_taken c_shades_tint c_shades_many c_palette_levels c_pools_totals c_pools_many n_taken n_shades_tint n_shades_many n_palette_levels n_pools_totals n_pools_many f_rounds f_taken f_shades_size f_shades_stale f_shades_tint f_shades_many f_palette_size f_palette_levels f_pools_size f_pools_totals_5 f_pools_many_6) := hD.sub [0, 1, 2, 3, 4, 5, 6, 7, 8, 9] (by decide) rfl
      refine lv_iinc (v := v4 + 1) (lv' := [(4, .int (v4 + 1)), (0, .ref q_this), (1, .ref q_shades), (2, .ref q_palette), (3, .ref q_pools)]) hx hb dFi_moveToMeans_45 hl (k := 4) rfl rfl (by decide) rfl (fun ls hl => ?_)
      refine lv_goto (tgt := 11) hx hb dFi_moveToMeans_48 (by decide) ?_
      rw [eK11, eG] at hv
      exact hv _ _ _ hP hD hS (lv_sub hl [1, 2, 3, 4, 0] rfl))
  have hv := hv (by
    intro v4 v5 f_palette_levels f_pools_size f_pools_totals f_pools_many hv
    rw [eK57]
    intro H locs ls hP hD hS hl
    rw [eG]
    unfold vcFi_moveToMeans_57 at hv
    refine lv_iload hx hb dFi_moveToMeans_57 (lv_at hl 3 rfl) ?_
    refine lv_aload_n hx hb dFi_moveToMeans_59 rfl (lv_at hl 0 rfl) ?_
    refine va_get (D := (dC, dI)) (ci := 4) (v := .int f_palette_size) (C := RPa) (T := TPa) (N := 2) hx hb hB hiPa hown hK hP 5 rfl rfl 1 (by decide) hL57 (fun _ h9 => h9) rfl dFi_moveToMeans_60 ?_
    refine lv_icmp_ge (tgt := 112) hx hb dFi_moveToMeans_63 (by decide) (fun c_8 => ?_) (fun c_8 => ?_)
    · have hv := hv.1 c_8
      refine lv_iload hx hb dFi_moveToMeans_112 (lv_at hl 2 rfl) ?_
      obtain ⟨h_9, hv⟩ := hv
      exact W.zret (v := v4) hx hb hr h_9 (fun t ht hW => ⟨⟨_, (f_palette_levels, f_pools_size, f_pools_totals, f_pools_many), rfl, hv, by rw [ht]; exact hP, hD⟩, hS.F ht⟩) hS.2.2 dFi_moveToMeans_114
    · have hv := hv.2 c_8
      refine lv_aload_n hx hb dFi_moveToMeans_66 rfl (lv_at hl 1 rfl) ?_
      refine va_get (D := (dC, dI)) (ci := 5) (v := .ref q_pools_many) (C := RPo) (T := TPo) (N := 4) hx hb hB hiPo hown hK hP 7 rfl rfl 1 (by decide) hL97 (fun _ h9 => h9) rfl dFi_moveToMeans_67 ?_
      refine lv_iload hx hb dFi_moveToMeans_70 (lv_at hl 3 rfl) ?_
      obtain ⟨h_10, hv⟩ := hv
      refine va_iald hx hb hK hP 9 5 rfl rfl h_10 dFi_moveToMeans_72 ?_
      refine lv_if_le (tgt := 106) hx hb dFi_moveToMeans_73 (by decide) (fun c_11 => ?_) (fun c_11 => ?_)
      · have hv := hv.1 c_11
        exact j106 v4 v5 f_palette_levels f_pools_size f_pools_totals f_pools_many hv _ _ _ hP hD hS (lv_sub hl [0, 1, 2, 3] rfl)
      · have hv := hv.2 c_11
        refine lv_aload_n hx hb dFi_moveToMeans_76 rfl (lv_at hl 1 rfl) ?_
        refine lv_iload hx hb dFi_moveToMeans_77 (lv_at hl 3 rfl) ?_
        refine gx_ri (va_runV (As := [.int v5]) (rest := []) ⟨hx, hb, hml, hown, hB⟩ (metPo_meanOf l dC dI q_pools q_pools_totals q_pools_many r_pools_means c_pools_totals c_pools_many n_pools_totals n_pools_many H.size f_pools_size f_pools_totals f_pools_many v5 hv) (cwV 1 hB (gx_gV bw492 bw441 bw442 bw48 bw443) rfl rfl rfl (by decide +kernel) ⟨(Nat.le_of_ble_eq_true rfl), (Nat.le_of_ble_eq_true rfl)⟩) (gx_rpreV (ci := 5) (hP.sub (ws' := (wdPo_meanOf q_pools q_pools_totals q_pools_many r_pools_means c_pools_totals c_pools_many n_pools_totals n_pools_many f_pools_size f_pools_totals f_pools_many)) [7, 8, 9] rfl) (hK.sub (tys' := [(c_pools_totals, .int), (c_pools_many, .int)]) [4, 5] rfl) hZ hS hA rfl rfl) rfl rfl hl.1 rfl (lv_room (Nat.le_of_ble_eq_true rfl)) dFi_moveToMeans_79 ⟨(Nat.le_of_ble_eq_true rfl), (Nat.le_of_ble_eq_true rfl)⟩) hP hS hA (fun r_12 H locs hv hP hS => ?_)
        refine lv_aload_n hx hb dFi_moveToMeans_82 rfl (lv_at hl 0 rfl) ?_
        refine lv_iload hx hb dFi_moveToMeans_83 (lv_at hl 3 rfl) ?_
        refine gx_ri (va_runV (As := [.int v5]) (rest := [.int r_12]) ⟨hx, hb, hml, hown, hB⟩ (metPa_packedOf l dC dI q_palette q_palette_levels c_palette_levels n_palette_levels H.size f_palette_size f_palette_levels v5 hv) (cwV 1 hB (gx_gV bw483 bw484 bw485 bw50 bw486) rfl rfl rfl (by decide +kernel) ⟨(Nat.le_of_ble_eq_true rfl), (Nat.le_of_ble_eq_true rfl)⟩) (gx_rpreV (ci := 4) (hP.sub (ws' := (wdPa_packedOf q_palette q_palette_levels c_palette_levels n_palette_levels f_palette_size f_palette_levels)) [5, 6] rfl) (hK.sub (tys' := [(c_palette_levels, .int)]) [3] rfl) hZ hS hA rfl rfl) rfl rfl hl.1 rfl (lv_room (Nat.le_of_ble_eq_true rfl)) dFi_moveToMeans_85 ⟨(Nat.le_of_ble_eq_true rfl), (Nat.le_of_ble_eq_true rfl)⟩) hP hS hA (fun r_14 H locs hv hP hS => ?_)
        refine lv_icmp_eq (tgt := 106) hx hb dFi_moveToMeans_88 (by decide) (fun c_16 => ?_) (fun c_16 => ?_)
        · have hv := hv.1 c_16
          exact j106 v4 v5 f_palette_levels f_pools_size f_pools_totals f_pools_many hv _ _ _ hP hD hS (lv_sub hl [0, 1, 2, 3] rfl)
        · have hv := hv.2 c_16
          refine lv_aload_n hx hb dFi_moveToMeans_91 rfl (lv_at hl 0 rfl) ?_
          refine lv_iload hx hb dFi_moveToMeans_92 (lv_at hl 3 rfl) ?_
          refine lv_aload_n hx hb dFi_moveToMeans_94 rfl (lv_at hl 1 rfl) ?_
          refine lv_iload hx hb dFi_moveToMeans_95 (lv_at hl 3 rfl) ?_
          refine gx_ri (va_runV (As := [.int v5]) (rest := [.int v5, .ref q_palette]) ⟨hx, hb, hml, hown, hB⟩ (metPo_meanOf l dC dI q_pools q_pools_totals q_pools_many r_pools_means c_pools_totals c_pools_many n_pools_totals n_pools_many H.size f_pools_size f_pools_totals f_pools_many v5 hv) (cwV 1 hB (gx_gV bw492 bw441 bw442 bw48 bw443) rfl rfl rfl (by decide +kernel) ⟨(Nat.le_of_ble_eq_true rfl), (Nat.le_of_ble_eq_true rfl)⟩) (gx_rpreV (ci := 5) (hP.sub (ws' := (wdPo_meanOf q_pools q_pools_totals q_pools_many r_pools_means c_pools_totals c_pools_many n_pools_totals n_pools_many f_pools_size f_pools_totals f_pools_many)) [7, 8, 9] rfl) (hK.sub (tys' := [(c_pools_totals, .int), (c_pools_many, .int)]) [4, 5] rfl) hZ hS hA rfl rfl) rfl rfl hl.1 rfl (lv_room (Nat.le_of_ble_eq_true rfl)) dFi_moveToMeans_97 ⟨(Nat.le_of_ble_eq_true rfl), (Nat.le_of_ble_eq_true rfl)⟩) hP hS hA (fun r_17 H locs hv hP hS => ?_)
          have hFc := va_free (wc := (wdPa_replace q_palette q_palette_levels c_palette_levels n_palette_levels f_palette_size f_palette_levels)) hD hS hA [5, 6] rfl
          refine gx_v (wr := [(q_this, .inr (2, [.ref q_taken, .ref r_missed, .ref r_takers, .ref r_keys, .int f_rounds])), (q_taken, .inl (c_taken, n_taken, .inl f_taken)), (q_shades, .inr (6, [.ref q_shades_tint, .ref q_shades_many, .ref r_shades_rank, .ref r_shades_keys, .int f_shades_size, .int f_shades_stale])), (q_shades_tint, .inl (c_shades_tint, n_shades_tint, .inl f_shades_tint)), (q_shades_many, .inl (c_shades_many, n_shades_many, .inl f_shades_many)), (q_pools, .inr (5, [.ref q_pools_totals, .ref q_pools_many, .ref r_pools_means, .int f_pools_size])), (q_pools_totals, .inl (c_pools_totals, n_pools_totals, .inl f_pools_totals)), (q_pools_many, .inl (c_pools_many, n_pools_many, .inl f_pools_many))]) (va_runV (As := [.int v5, .int r_17]) (rest := []) ⟨hx, hb, hml, hown, hB⟩ (metPa_replace l dC dI q_palette q_palette_levels c_palette_levels n_palette_levels H.size f_palette_size f_palette_levels v5 r_17 hv) (cwV 2 hB (gx_gV bw493 bw391 bw392 bw50 bw393) rfl rfl rfl (by decide +kernel) ⟨(Nat.le_of_ble_eq_true rfl), (Nat.le_of_ble_eq_true rfl)⟩) (gx_preV (ci := 4) (hP.sub (ws' := (wdPa_replace q_palette q_palette_levels c_palette_levels n_palette_levels f_palette_size f_palette_levels)) [5, 6] rfl) (hK.sub (tys' := [(c_palette_levels, .int)]) [3] rfl) (hD.sub (ws' := (wdPa_replace q_palette q_palette_levels c_palette_levels n_palette_levels f_palette_size f_palette_levels)) [5, 6] (by decide) rfl) hZ hS hFc rfl rfl) rfl rfl hl.1 rfl (lv_room (Nat.le_of_ble_eq_true rfl)) dFi_moveToMeans_100 ⟨(Nat.le_of_ble_eq_true rfl), (Nat.le_of_ble_eq_true rfl)⟩) hP hD hS hFc [5, 6] [0, 1, 2, 3, 4, 7, 8, 9] rfl rfl (by decide) (by decide) (fun u_20 H locs hv hP hD hS => ?_)
          obtain ⟨f_palette_levels_19, rfl⟩ : ∃ z, z = u_20 := ⟨_, rfl⟩
          have hP : va_P (dC, dI) vwCl (wdFi_moveToMeans q_this q_taken q_shades q_shades_tint q_shades_many q_palette q_palette_levels q_pools q_pools_totals q_pools_many r_missed r_takers r_keys r_shades_rank r_shades_keys r_pools_means c_taken c_shades_tint c_shades_many c_palette_levels c_pools_totals c_pools_many n_taken n_shades_tint n_shades_many n_palette_levels n_pools_totals n_pools_many f_rounds f_taken f_shades_size f_shades_stale f_shades_tint f_shades_many f_palette_size f_palette_levels_19 f_pools_size f_pools_totals f_pools_many) H := hP.sub [0, 1, 2, 3, 4, 8, 9, 5, 6, 7] rfl
          have hD : va_D A (wdFi_moveToMeans q_this q_taken q_shades q_shades_tint q_shades_many q_palette q_palette_levels q_pools q_pools_totals q_pools_many r_missed r_takers r_keys r_shades_rank r_shades_keys r_pools_means c_taken c_shades_tint c_shades_many c_palette_levels c_pools_totals c_pools_many n_taken n_shades_tint n_shades_many n_palette_levels n_pools_totals n_pools_many f_rounds f_taken f_shades_size f_shades_stale f_shades_tint f_shades_many f_palette_size f_palette_levels_19 f_pools_size f_pools_totals f_pools_many) := hD.sub [0, 1, 2, 3, 4, 8, 9, 5, 6, 7] (by decide) rfl
          refine lv_iconst (v := 1) hx hb dFi_moveToMeans_103 (by decide) ?_
          refine lv_istore (lv' := [(4, .int 1), (2, .ref q_palette), (3, .ref q_pools), (5, .int v5)]) hx hb dFi_moveToMeans_104 hl (by decide) rfl (fun ls hl => ?_)
          exact j106 1 v5 f_palette_levels_19 f_pools_size f_pools_totals f_pools_many hv _ _ _ hP hD hS (lv_sub hl [1, 2, 0, 3] rfl))
  rw [eG]
  refine lv_aload_n hx hb dFi_moveToMeans_0 rfl (lv_at hl 3 rfl) ?_
  refine lv_aload_n hx hb dFi_moveToMeans_1 rfl (lv_at hl 2 rfl) ?_
  refine va_get (D := (dC, dI)) (ci := 4) (v := .int f_palette_size) (C := RPa) (T := TPa) (N := 2) hx hb hB hiPa hown hK hP 5 rfl rfl 1 (by decide) hL57 (fun _ h9 => h9) rfl dFi_moveToMeans_2 ?_
  have hFc := va_free (wc := (wdPo_start q_pools q_pools_totals q_pools_many r_pools_means c_pools_totals c_pools_many n_pools_totals n_pools_many f_pools_size f_pools_totals f_pools_many)) hD hS hA [7, 8, 9] rfl
  refine gx_v (wr := [(q_this, .inr (2, [.ref q_taken, .ref r_missed, .ref r_takers, .ref r_keys, .int f_rounds])), (q_taken, .inl (c_taken, n_taken, .inl f_taken)), (q_shades, .inr (6, [.ref q_shades_tint, .ref q_shades_many, .ref r_shades_rank, .ref r_shades_keys, .int f_shades_size, .int f_shades_stale])), (q_shades_tint, .inl (c_shades_tint, n_shades_tint, .inl f_shades_tint)), (q_shades_many, .inl (c_shades_many, n_shades_many, .inl f_shades_many)), (q_palette, .inr (4, [.ref q_palette_levels, .int f_palette_size])), (q_palette_levels, .inl (c_palette_levels, n_palette_levels, .inl f_palette_levels))]) (va_runV (As := [.int f_palette_size]) (rest := []) ⟨hx, hb, hml, hown, hB⟩ (metPo_start l dC dI q_pools q_pools_totals q_pools_many r_pools_means c_pools_totals c_pools_many n_pools_totals n_pools_many s.heap.size f_pools_size f_pools_totals f_pools_many f_palette_size hv) (cwV 1 hB (gx_gV bw490 bw425 bw426 bw48 bw427) rfl rfl rfl (by decide +kernel) ⟨(Nat.le_of_ble_eq_true rfl), (Nat.le_of_ble_eq_true rfl)⟩) (gx_preV (ci := 5) (hP.sub (ws' := (wdPo_start q_pools q_pools_totals q_pools_many r_pools_means c_pools_totals c_pools_many n_pools_totals n_pools_many f_pools_size f_pools_totals f_pools_many)) [7, 8, 9] rfl) (hK.sub (tys' := [(c_pools_totals, .int), (c_pools_many, .int)]) [4, 5] rfl) (hD.sub (ws' := (wdPo_start q_pools q_pools_totals q_pools_many r_pools_means c_pools_totals c_pools_many n_pools_totals n_pools_many f_pools_size f_pools_totals f_pools_many)) [7, 8, 9] (by decide) rfl) hZ hS hFc rfl rfl) rfl rfl hl.1 rfl (lv_room (Nat.le_of_ble_eq_true rfl)) dFi_moveToMeans_5 ⟨(Nat.le_of_ble_eq_true rfl), (Nat.le_of_ble_eq_true rfl)⟩) hP hD hS hFc [7, 8, 9] [0, 1, 2, 3, 4, 5, 6] rfl rfl (by decide) (by decide) (fun u_24 H locs hv hP hD hS => ?_)
  obtain ⟨f_pools_size_21, f_pools_totals_22, f_pools_many_23⟩ := u_24
  have hP : va_P (dC, dI) vwCl (wdFi_moveToMeans q_this q_taken q_shades q_shades_tint q_shades_many q_palette q_palette_levels q_pools q_pools_totals q_pools_many r_missed r_takers r_keys r_shades_rank r_shades_keys r_pools_means c_taken c_shades_tint c_shades_many c_palette_levels c_pools_totals c_pools_many n_taken n_shades_tint n_shades_many n_palette_levels n_pools_totals n_pools_many f_rounds f_taken f_shades_size f_shades_stale f_shades_tint f_shades_many f_palette_size f_palette_levels f_pools_size_21 f_pools_totals_22 f_pools_many_23) H := hP.sub [0, 1, 2, 3, 4, 5, 6, 7, 8, 9] rfl
  have hD : va_D A (wdFi_moveToMeans q_this q_taken q_shades q_shades_tint q_shades_many q_palette q_palette_levels q_pools q_pools_totals q_pools_many r_missed r_takers r_keys r_shades_rank r_shades_keys r_pools_means c_taken c_shades_tint c_shades_many c_palette_levels c_pools_totals c_pools_many n_taken n_shades_tint n_shades_many n_palette_levels n_pools_totals n_pools_many f_rounds f_taken f_shades_size f_shades_stale f_shades_tint f_shades_many f_palette_size f_palette_levels f_pools_size_21 f_pools_totals_22 f_pools_many_23) := hD.sub [0, 1, 2, 3, 4, 5, 6, 7, 8, 9] (by decide) rfl
  refine lv_iconst (v := 0) hx hb dFi_moveToMeans_8 (by decide) ?_
  refine lv_istore (lv' := [(4, .int 0), (0, .ref q_this), (1, .ref q_shades), (2, .ref q_palette), (3, .ref q_pools)]) hx hb dFi_moveToMeans_9 hl (by decide) rfl (fun ls hl => ?_)
  rw [eK11, eG] at hv
  exact hv _ _ _ hP hD hS (lv_sub hl [1, 2, 3, 4, 0] rfl)
abbrev wdFi_bringToMeans (q_this q_taken q_missed q_shades q_shades_tint q_shades_many q_palette q_palette_levels q_pools q_pools_totals q_pools_many r_takers r_keys r_shades_rank r_shades_keys r_pools_means : Nat) (c_taken c_missed c_shades_tint c_shades_many c_palette_levels c_pools_totals c_pools_many : ClassId) (n_taken n_missed n_shades_tint n_shades_many n_palette_levels n_pools_totals n_pools_many : Nat) (f_rounds : Int32) (f_taken : Nat → Int32) (f_missed : Nat → Int64) (f_shades_size : Int32) (f_shades_stale : Int32) (f_shades_tint : Nat → Int32) (f_shades_many : Nat → Int32) (f_palette_size : Int32) (f_palette_levels : Nat → Int32) (f_pools_size : Int32) (f_pools_totals : Nat → Int32) (f_pools_many : Nat → Int32) : va_W := [(q_this, .inr (2, [.ref q_taken, .ref q_missed, .ref r_takers, .ref r_keys, .int f_rounds])), (q_taken, .inl (c_taken, n_taken, .inl f_taken)), (q_missed, .inl (c_missed, n_missed, .inr (.inl f_missed))), (q_shades, .inr (6, [.ref q_shades_tint, .ref q_shades_many, .ref r_shades_rank, .ref r_shades_keys, .int f_shades_size, .int f_shades_stale])), (q_shades_tint, .inl (c_shades_tint, n_shades_tint, .inl f_shades_tint)), (q_shades_many, .inl (c_shades_many, n_shades_many, .inl f_shades_many)), (q_palette, .inr (4, [.ref q_palette_levels, .int f_palette_size])), (q_palette_levels, .inl (c_palette_levels, n_palette_levels, .inl f_palette_levels)), (q_pools, .inr (5, [.ref q_pools_totals, .ref q_pools_many, .ref r_pools_means, .int f_pools_size])), (q_pools_totals, .inl (c_pools_totals, n_pools_totals, .inl f_pools_totals)), (q_pools_many, .inl (c_pools_many, n_pools_many, .inl f_pools_many))]
set_option maxHeartbeats 4000000 in
set_option maxRecDepth 100000 in
theorem metFi_bringToMeans (l : Launch) (dC : Nat → ClassId) (dI : Nat → Nat → Nat) (q_this q_taken q_missed q_shades q_shades_tint q_shades_many q_palette q_palette_levels q_pools q_pools_totals q_pools_many r_takers r_keys r_shades_rank r_shades_keys r_pools_means : Nat) (c_taken c_missed c_shades_tint c_shades_many c_palette_levels c_pools_totals c_pools_many : ClassId) (n_taken n_missed n_shades_tint n_shades_many n_palette_levels n_pools_totals n_pools_many : Nat) (sz : Nat) (f_rounds : Int32) (f_taken : Nat → Int32) (f_missed : Nat → Int64) (f_shades_size : Int32) (f_shades_stale : Int32) (f_shades_tint : Nat → Int32) (f_shades_many : Nat → Int32) (f_palette_size : Int32) (f_palette_levels : Nat → Int32) (f_pools_size : Int32) (f_pools_totals : Nat → Int32) (f_pools_many : Nat → Int32) (x4 : Int32) {post : Int32 → (Nat → Int32) → (Nat → Int64) → (Nat → Int32) → Int32 → (Nat → Int32) → (Nat → Int32) → Prop} (hw : wpFi_bringToMeans n_taken n_missed n_shades_tint n_shades_many n_palette_levels n_pools_totals n_pools_many f_rounds f_taken f_missed f_shades_size f_shades_stale f_shades_tint f_shades_many f_palette_size f_palette_levels f_pools_size f_pools_totals f_pools_many x4 post) : Met l yFi_bringToMeans (.code yFi_bringToMeans bFi_bringToMeans 9 none :: BIG) ({ frames := 3, cells := 0, slots := 0, locals := 76 }) (va_Pc [.ref q_this, .ref q_shades, .ref q_palette, .ref q_pools, .int x4] (gx_pre (dC, dI) vwCl (wdFi_bringToMeans q_this q_taken q_missed q_shades q_shades_tint q_shades_many q_palette q_palette_levels q_pools q_pools_totals q_pools_many r_takers r_keys r_shades_rank r_shades_keys r_pools_means c_taken c_missed c_shades_tint c_shades_many c_palette_levels c_pools_totals c_pools_many n_taken n_missed n_shades_tint n_shades_many n_palette_levels n_pools_totals n_pools_many f_rounds f_taken f_missed f_shades_size f_shades_stale f_shades_tint f_shades_many f_palette_size f_palette_levels f_pools_size f_pools_totals f_pools_many) [(c_taken, .int), (c_missed, .long), (c_shades_tint, .int), (c_shades_many, .int), (c_palette_levels, .int), (c_pools_totals, .int), (c_pools_many, .int)] sz)) (va_Qv (fun (u : Int32 × (Nat → Int32) × (Nat → Int64) × (Nat → Int32) × Int32 × (Nat → Int32) × (Nat → Int32)) => post u.1 u.2.1 u.2.2.1 u.2.2.2.1 u.2.2.2.2.1 u.2.2.2.2.2.1 u.2.2.2.2.2.2) (gx_B (dC, dI) vwCl (va_A (wdFi_bringToMeans q_this q_taken q_missed q_shades q_shades_tint q_shades_many q_palette q_palette_levels q_pools q_pools_totals q_pools_many r_takers r_keys r_shades_rank r_shades_keys r_pools_means c_taken c_missed c_shades_tint c_shades_many c_palette_levels c_pools_totals c_pools_many n_taken n_missed n_shades_tint n_shades_many n_palette_levels n_pools_totals n_pools_many f_rounds f_taken f_missed f_shades_size f_shades_stale f_shades_tint f_shades_many f_palette_size f_palette_levels f_pools_size f_pools_totals f_pools_many) sz) (fun (u : Int32 × (Nat → Int32) × (Nat → Int64) × (Nat → Int32) × Int32 × (Nat → Int32) × (Nat → Int32)) => (wdFi_bringToMeans q_this q_taken q_missed q_shades q_shades_tint q_shades_many q_palette q_palette_levels q_pools q_pools_totals q_pools_many r_takers r_keys r_shades_rank r_shades_keys r_pools_means c_taken c_missed c_shades_tint c_shades_many c_palette_levels c_pools_totals c_pools_many n_taken n_missed n_shades_tint n_shades_many n_palette_levels n_pools_totals n_pools_many u.1 u.2.1 u.2.2.1 f_shades_size f_shades_stale f_shades_tint f_shades_many f_palette_size u.2.2.2.1 u.2.2.2.2.1 u.2.2.2.2.2.1 u.2.2.2.2.2.2))) (va_A (wdFi_bringToMeans q_this q_taken q_missed q_shades q_shades_tint q_shades_many q_palette q_palette_levels q_pools q_pools_totals q_pools_many r_takers r_keys r_shades_rank r_shades_keys r_pools_means c_taken c_missed c_shades_tint c_shades_many c_palette_levels c_pools_totals c_pools_many n_taken n_missed n_shades_tint n_shades_many n_palette_levels n_pools_totals n_pools_many f_rounds f_taken f_missed f_shades_size f_shades_stale f_shades_tint f_shades_many f_palette_size f_palette_levels f_pools_size f_pools_totals f_pools_many) sz)) 0 0 (va_A (wdFi_bringToMeans q_this q_taken q_missed q_shades q_shades_tint q_shades_many q_palette q_palette_levels q_pools q_pools_totals q_pools_many r_takers r_keys r_shades_rank r_shades_keys r_pools_means c_taken c_missed c_shades_tint c_shades_many c_palette_levels c_pools_totals c_pools_many n_taken n_missed n_shades_tint n_shades_many n_palette_levels n_pools_totals n_pools_many f_rounds f_taken f_missed f_shades_size f_shades_stale f_shades_tint f_shades_many f_palette_size f_palette_levels f_pools_size f_pools_totals f_pools_many) sz) := by
  refine Met.ofW (cc := bFi_bringToMeans) (maxL := 9) (ret := none) (by decide) rfl ?_
  intro p e s m args below meth c s₁ B hml hv
  obtain ⟨rfl, hsz, hP, hK, hD0, hZ⟩ := hv
  have hx := B.exec
  have hb := B.bytes
  have hr := B.returns
  have hts := atoms_spec (ws := (.code yFi_bringToMeans bFi_bringToMeans 9 none :: BIG)) B.pre
  have hB : ∀ w ∈ BIG, w.before _ s = true := fun w h => hts w (List.mem_cons_of_mem _ h)
  have hown : s.vm.findClass RFi = some m.cls := findClass_of_methodNamed B.named
  have hlocks := B.notSynchronized
  subst hsz
  have hD := hD0.self (sz := s.heap.size)
  generalize hAe : va_A (wdFi_bringToMeans q_this q_taken q_missed q_shades q_shades_tint q_shades_many q_palette q_palette_levels q_pools q_pools_totals q_pools_many r_takers r_keys r_shades_rank r_shades_keys r_pools_means c_taken c_missed c_shades_tint c_shades_many c_palette_levels c_pools_totals c_pools_many n_taken n_missed n_shades_tint n_shades_many n_palette_levels n_pools_totals n_pools_many f_rounds f_taken f_missed f_shades_size f_shades_stale f_shades_tint f_shades_many f_palette_size f_palette_levels f_pools_size f_pools_totals f_pools_many) s.heap.size = A at hD hZ ⊢
  have hA : ∀ q : Nat, s.heap.size ≤ q → A q := fun q h => by rw [← hAe]; exact Or.inr h
  have hS : va_S A s.heap s.heap [] := va_S.rf
  have hl := lv_entry ([.ref q_this, .ref q_shades, .ref q_palette, .ref q_pools, .int x4]) (n := 9) (Nat.le_of_ble_eq_true rfl)
  rw [lg_entry_eq]
  generalize (lg_sl ([.ref q_this, .ref q_shades, .ref q_palette, .ref q_pools, .int x4]) ++ List.replicate (9 - (lg_sl ([.ref q_this, .ref q_shades, .ref q_palette, .ref q_pools, .int x4])).length) Slot.unset).toArray = ls at hl ⊢
  have hl : lv_has ls 9 [(0, .ref q_this), (1, .ref q_shades), (2, .ref q_palette), (3, .ref q_pools), (4, .int x4)] := hl
  have hL9 := (hB _ bw180)
  have hL25 := (hB _ bw184)
  refine gx_abs (fun G eG => ?_)
  obtain ⟨K25, eK25⟩ : ∃ K : Int64 → Int32 → Int32 → Int32 → (Nat → Int32) → (Nat → Int64) → (Nat → Int32) → Int32 → (Nat → Int32) → (Nat → Int32) → Prop, K = fun v5 v7 v8 f_rounds f_taken f_missed f_palette_levels f_pools_size f_pools_totals f_pools_many => ∀ (H : Heap) (locs : List Loc) (ls : Array Slot), va_P (dC, dI) vwCl (wdFi_bringToMeans q_this q_taken q_missed q_shades q_shades_tint q_shades_many q_palette q_palette_levels q_pools q_pools_totals q_pools_many r_takers r_keys r_shades_rank r_shades_keys r_pools_means c_taken c_missed c_shades_tint c_shades_many c_palette_levels c_pools_totals c_pools_many n_taken n_missed n_shades_tint n_shades_many n_palette_levels n_pools_totals n_pools_many f_rounds f_taken f_missed f_shades_size f_shades_stale f_shades_tint f_shades_many f_palette_size f_palette_levels f_pools_size f_pools_totals f_pools_many) H → va_D A (wdFi_bringToMeans q_this q_taken q_missed q_shades q_shades_tint q_shades_many q_palette q_palette_levels q_pools q_pools_totals q_pools_many r_takers r_keys r_shades_rank r_shades_keys r_pools_means c_taken c_missed c_shades_tint c_shades_many c_palette_levels c_pools_totals c_pools_many n_taken n_missed n_shades_tint n_shades_many n_palette_levels n_pools_totals n_pools_many f_rounds f_taken f_missed f_shades_size f_shades_stale f_shades_tint f_shades_many f_palette_size f_palette_levels f_pools_size f_pools_totals f_pools_many) → va_S A s.heap H locs → lv_has ls 9 [(0, .ref q_this), (1, .ref q_shades), (2, .ref q_palette), (3, .ref q_pools), (5, .long v5), (7, .int v7), (8, .int v8)] → G H locs 0 0 (F0 m 25 ls []) := ⟨_, rfl⟩
  have j78 : ∀ (v5 : Int64) (v7 : Int32) (v8 : Int32) (f_rounds : Int32) (f_taken : Nat → Int32) (f_missed : Nat → Int64) (f_palette_levels : Nat → Int32) (f_pools_size : Int32) (f_pools_totals : Nat → Int32) (f_pools_many : Nat → Int32), vcFi_bringToMeans_78 n_taken n_missed n_shades_tint n_shades_many n_palette_levels n_pools_totals n_pools_many f_shades_size f_shades_stale f_shades_tint f_shades_many f_palette_size x4 K25 post v5 v7 v8 f_rounds f_taken f_missed f_palette_levels f_pools_size f_pools_totals f_pools_many → ∀ (H : Heap) (locs : List Loc) (ls : Array Slot), va_P (dC, dI) vwCl (wdFi_bringToMeans q_this q_taken q_missed q_shades q_shades_tint q_shades_many q_palette q_palette_levels q_pools q_pools_totals q_pools_many r_takers r_keys r_shades_rank r_shades_keys r_pools_means c_taken c_missed c_shades_tint c_shades_many c_palette_levels c_pools_totals c_pools_many n_taken n_missed n_shades_tint n_shades_many n_palette_levels n_pools_totals n_pools_many f_rounds f_taken f_missed f_shades_size f_shades_stale f_shades_tint f_shades_many f_palette_size f_palette_levels f_pools_size f_pools_totals f_pools_many) H → va_D A (wdFi_bringToMeans q_this q_taken q_missed q_shades q_shades_tint q_shades_many q_palette q_palette_levels q_pools q_pools_totals q_pools_many r_takers r_keys r_shades_rank r_shades_keys r_pools_means c_taken c_missed c_shades_tint c_shades_many c_palette_levels c_pools_totals c_pools_many n_taken n_missed n_shades_tint n_shades_many n_palette_levels n_pools_totals n_pools_many f_rounds f_taken f_missed f_shades_size f_shades_stale f_shades_tint f_shades_many f_palette_size f_palette_levels f_pools_size f_pools_totals f_pools_many) → va_S A s.heap H locs → lv_has ls 9 [(0, .ref q_this), (1, .ref q_shades), (2, .ref q_palette), (3, .ref q_pools), (5, .long v5), (7, .int v7), (8, .int v8)] → G H locs 0 0 (F0 m 78 ls []) := by
    intro v5 v7 v8 f_rounds f_taken f_missed f_palette_levels f_pools_size f_pools_totals f_pools_many hv H locs ls hP hD hS hl
    rw [eG]
    unfold vcFi_bringToMeans_78 at hv
    refine lv_iinc (v := v8 + 1) (lv' := [(8, .int (v8 + 1)), (0, .ref q_this), (1, .ref q_shades), (2, .ref q_palette), (3, .ref q_pools), (5, .long v5), (7, .int v7)]) hx hb dFi_bringToMeans_78 hl (k := 6) rfl rfl (by decide) rfl (fun ls hl => ?_)
    refine lv_goto (tgt := 25) hx hb dFi_bringToMeans_81 (by decide) ?_
    rw [eK25, eG] at hv
    exact hv _ _ _ hP hD hS (lv_sub hl [1, 2, 3, 4, 5, 6, 0] rfl)
  rw [eG] at j78
  have j63 : ∀ (v5 : Int64) (v8 : Int32) (s0 : Int32) (f_rounds : Int32) (f_taken : Nat → Int32) (f_missed : Nat → Int64) (f_palette_levels : Nat → Int32) (f_pools_size : Int32) (f_pools_totals : Nat → Int32) (f_pools_many : Nat → Int32), vcFi_bringToMeans_63 n_taken n_missed n_shades_tint n_shades_many n_palette_levels n_pools_totals n_pools_many f_shades_size f_shades_stale f_shades_tint f_shades_many f_palette_size x4 K25 post v5 v8 s0 f_rounds f_taken f_missed f_palette_levels f_pools_size f_pools_totals f_pools_many → ∀ (H : Heap) (locs : List Loc) (ls : Array Slot), va_P (dC, dI) vwCl (wdFi_bringToMeans q_this q_taken q_missed q_shades q_shades_tint q_shades_many q_palette q_palette_levels q_pools q_pools_totals q_pools_many r_takers r_keys r_shades_rank r_shades_keys r_pools_means c_taken c_missed c_shades_tint c_shades_many c_palette_levels c_pools_totals c_pools_many n_taken n_missed n_shades_tint n_shades_many n_palette_levels n_pools_totals n_pools_many f_rounds f_taken f_missed f_shades_size f_shades_stale f_shades_tint f_shades_many f_palette_size f_palette_levels f_pools_size f_pools_totals f_pools_many) H → va_D A (wdFi_bringToMeans q_this q_taken q_missed q_shades q_shades_tint q_shades_many q_palette q_palette_levels q_pools q_pools_totals q_pools_many r_takers r_keys r_shades_rank r_shades_keys r_pools_means c_taken c_missed c_shades_tint c_shades_many c_palette_levels c_pools_totals c_pools_many n_taken n_missed n_shades_tint n_shades_many n_palette_levels n_pools_totals n_pools_many f_rounds f_taken f_missed f_shades_size f_shades_stale f_shades_tint f_shades_many f_palette_size f_palette_levels f_pools_size f_pools_totals f_pools_many) → va_S A s.heap H locs → lv_has ls 9 [(0, .ref q_this), (1, .ref q_shades), (2, .ref q_palette), (3, .ref q_pools), (5, .long v5), (8, .int v8)] → G H locs 0 0 (F0 m 63 ls [.int s0]) := by
    intro v5 v8 s0 f_rounds f_taken f_missed f_palette_levels f_pools_size f_pools_totals f_pools_many hv H locs ls hP hD hS hl
    rw [eG]
    unfold vcFi_bringToMeans_63 at hv
    refine lv_istore (lv' := [(7, .int s0), (0, .ref q_this), (1, .ref q_shades), (2, .ref q_palette), (3, .ref q_pools), (5, .long v5), (8, .int v8)]) hx hb dFi_bringToMeans_63 hl (by decide) rfl (fun ls hl => ?_)
    refine lv_iload hx hb dFi_bringToMeans_65 (lv_at hl 0 rfl) ?_
    refine lv_if_eq (tgt := 78) hx hb dFi_bringToMeans_67 (by decide) (fun c_1 => ?_) (fun c_1 => ?_)
    · have hv := hv.1 c_1
      exact j78 v5 s0 v8 f_rounds f_taken f_missed f_palette_levels f_pools_size f_pools_totals f_pools_many hv _ _ _ hP hD hS (lv_sub hl [1, 2, 3, 4, 5, 0, 6] rfl)
    · have hv := hv.2 c_1
      refine lv_aload_n hx hb dFi_bringToMeans_70 rfl (lv_at hl 1 rfl) ?_
      refine lv_aload_n hx hb dFi_bringToMeans_71 rfl (lv_at hl 2 rfl) ?_
      refine lv_aload_n hx hb dFi_bringToMeans_72 rfl (lv_at hl 3 rfl) ?_
      have hFc := va_free (wc := (wdFi_takeClosest q_this q_taken q_shades q_shades_tint q_shades_many q_palette q_palette_levels q_missed r_takers r_keys r_shades_rank r_shades_keys c_taken c_shades_tint c_shades_many c_palette_levels n_taken n_shades_tint n_shades_many n_palette_levels f_rounds f_taken f_shades_size f_shades_stale f_shades_tint f_shades_many f_palette_size f_palette_levels)) hD hS hA [0, 1, 3, 4, 5, 6, 7] rfl
      refine gx_l (wr := [(q_missed, .inl (c_missed, n_missed, .inr (.inl f_missed))), (q_pools, .inr (5, [.ref q_pools_totals, .ref q_pools_many, .ref r_pools_means, .int f_pools_size])), (q_pools_totals, .inl (c_pools_totals, n_pools_totals, .inl f_pools_totals)), (q_pools_many, .inl (c_pools_many, n_pools_many, .inl f_pools_many))]) (va_runV (As := [.ref q_shades, .ref q_palette]) (rest := []) ⟨hx, hb, hml, hown, hB⟩ (metFi_takeClosest l dC dI q_this q_taken q_shades q_shades_tint q_shades_many q_palette q_palette_levels q_missed r_takers r_keys r_shades_rank r_shades_keys c_taken c_shades_tint c_shades_many c_palette_levels n_taken n_shades_tint n_shades_many n_palette_levels H.size f_rounds f_taken f_shades_size f_shades_stale f_shades_tint f_shades_many f_palette_size f_palette_levels hv) (cwV 2 hB (gx_gV bw475 bw476 bw16 bw51 bw477) rfl rfl rfl (by decide +kernel) ⟨(Nat.le_of_ble_eq_true rfl), (Nat.le_of_ble_eq_true rfl)⟩) (gx_preV (ci := 2) (hP.sub (ws' := (wdFi_takeClosest q_this q_taken q_shades q_shades_tint q_shades_many q_palette q_palette_levels q_missed r_takers r_keys r_shades_rank r_shades_keys c_taken c_shades_tint c_shades_many c_palette_levels n_taken n_shades_tint n_shades_many n_palette_levels f_rounds f_taken f_shades_size f_shades_stale f_shades_tint f_shades_many f_palette_size f_palette_levels)) [0, 1, 3, 4, 5, 6, 7] rfl) (hK.sub (tys' := [(c_taken, .int), (c_shades_tint, .int), (c_shades_many, .int), (c_palette_levels, .int)]) [0, 2, 3, 4] rfl) (hD.sub (ws' := (wdFi_takeClosest q_this q_taken q_shades q_shades_tint q_shades_many q_palette q_palette_levels q_missed r_takers r_keys r_shades_rank r_shades_keys c_taken c_shades_tint c_shades_many c_palette_levels n_taken n_shades_tint n_shades_many n_palette_levels f_rounds f_taken f_shades_size f_shades_stale f_shades_tint f_shades_many f_palette_size f_palette_levels)) [0, 1, 3, 4, 5, 6, 7] (by decide) rfl) hZ hS hFc rfl rfl) rfl rfl hl.1 rfl (lv_room (Nat.le_of_ble_eq_true rfl)) dFi_bringToMeans_73 ⟨(Nat.le_of_ble_eq_true rfl), (Nat.le_of_ble_eq_true rfl)⟩) hP hD hS hFc [0, 1, 3, 4, 5, 6, 7] [2, 8, 9, 10] rfl rfl (by decide) (by decide) (fun r_3 u_4 H locs hv hP hD hS => ?_)
      obtain ⟨f_taken_2, rfl⟩ : ∃ z, z = u_4 := ⟨_, rfl⟩
      have hP : va_P (dC, dI) vwCl (wdFi_bringToMeans q_this q_taken q_missed q_shades q_shades_tint q_shades_many q_palette q_palette_levels q_pools q_pools_totals q_pools_many r_takers r_keys r_shades_rank r_shades_keys r_pools_means c_taken c_missed c_shades_tint c_shades_many c_palette_levels c_pools_totals c_pools_many n_taken n_missed n_shades_tint n_shades_many n_palette_levels n_pools_totals n_pools_many f_rounds f_taken_2 f_missed f_shades_size f_shades_stale f_shades_tint f_shades_many f_palette_size f_palette_levels f_pools_size f_pools_totals f_pools_many) H := hP.sub [4, 5, 0, 6, 7, 8, 9, 10, 1, 2, 3] rfl
      have hD : va_D A (wdFi_bringToMeans q_this q_taken q_missed q_shades q_shades_tint q_shades_many q_palette q_palette_levels q_pools q_pools_totals q_pools_many r_takers r_keys r_shades_rank r_shades_keys r_pools_means c_taken c_missed c_shades_tint c_shades_many c_palette_levels c_pools_totals c_pools_many n_taken n_missed n_shades_tint n_shades_many n_palette_levels n_pools_totals n_pools_many f_rounds f_taken_2 f_missed f_shades_size f_shades_stale f_shades_tint f_shades_many f_palette_size f_palette_levels f_pools_size f_pools_totals f_pools_many) := hD.sub [4, 5, 0, 6, 7, 8, 9, 10, 1, 2, 3] (by decide) rfl
      refine lv_lstore (lv' := [(5, .long r_3), (7, .int s0), (0, .ref q_this), (1, .ref q_shades), (2, .ref q_palette), (3, .ref q_pools), (8, .int v8)]) hx hb dFi_bringToMeans_76 hl (by decide) rfl (fun ls hl => ?_)
      exact j78 r_3 s0 v8 f_rounds f_taken_2 f_missed f_palette_levels f_pools_size f_pools_totals f_pools_many hv _ _ _ hP hD hS (lv_sub hl [2, 3, 4, 5, 0, 1, 6] rfl)
  rw [eG] at j63
  have j62 : ∀ (v5 : Int64) (v8 : Int32) (f_rounds : Int32) (f_taken : Nat → Int32) (f_missed : Nat → Int64) (f_palette_levels : Nat → Int32) (f_pools_size : Int32) (f_pools_totals : Nat → Int32) (f_pools_many : Nat → Int32), vcFi_bringToMeans_62 n_taken n_missed n_shades_tint n_shades_many n_palette_levels n_pools_totals n_pools_many f_shades_size f_shades_stale f_shades_tint f_shades_many f_palette_size x4 K25 post v5 v8 f_rounds f_taken f_missed f_palette_levels f_pools_size f_pools_totals f_pools_many → ∀ (H : Heap) (locs : List Loc) (ls : Array Slot), va_P (dC, dI) vwCl (wdFi_bringToMeans q_this q_taken q_missed q_shades q_shades_tint q_shades_many q_palette q_palette_levels q_pools q_pools_totals q_pools_many r_takers r_keys r_shades_rank r_shades_keys r_pools_means c_taken c_missed c_shades_tint c_shades_many c_palette_levels c_pools_totals c_pools_many n_taken n_missed n_shades_tint n_shades_many n_palette_levels n_pools_totals n_pools_many f_rounds f_taken f_missed f_shades_size f_shades_stale f_shades_tint f_shades_many f_palette_size f_palette_levels f_pools_size f_pools_totals f_pools_many) H → va_D A (wdFi_bringToMeans q_this q_taken q_missed q_shades q_shades_tint q_shades_many q_palette q_palette_levels q_pools q_pools_totals q_pools_many r_takers r_keys r_shades_rank r_shades_keys r_pools_means c_taken c_missed c_shades_tint c_shades_many c_palette_levels c_pools_totals c_pools_many n_taken n_missed n_shades_tint n_shades_many n_palette_levels n_pools_totals n_pools_many f_rounds f_taken f_missed f_shades_size f_shades_stale f_shades_tint f_shades_many f_palette_size f_palette_levels f_pools_size f_pools_totals f_pools_many) → va_S A s.heap H locs → lv_has ls 9 [(0, .ref q_this), (1, .ref q_shades), (2, .ref q_palette), (3, .ref q_pools), (5, .long v5), (8, .int v8)] → G H locs 0 0 (F0 m 62 ls []) := by
    intro v5 v8 f_rounds f_taken f_missed f_palette_levels f_pools_size f_pools_totals f_pools_many hv H locs ls hP hD hS hl
    rw [eG]
    unfold vcFi_bringToMeans_62 at hv
    refine lv_iconst (v := 0) hx hb dFi_bringToMeans_62 (by decide) ?_
    exact j63 v5 v8 0 f_rounds f_taken f_missed f_palette_levels f_pools_size f_pools_totals f_pools_many hv _ _ _ hP hD hS (lv_sub hl [0, 1, 2, 3, 4, 5] rfl)
  rw [eG] at j62
  unfold wpFi_bringToMeans at hw
  have hv := hw K25
  have hv := hv (by
    intro v5 v7 v8 f_rounds f_taken f_missed f_palette_levels f_pools_size f_pools_totals f_pools_many hv
    rw [eK25]
    intro H locs ls hP hD hS hl
    rw [eG]
    unfold vcFi_bringToMeans_25 at hv
    refine lv_iload hx hb dFi_bringToMeans_25 (lv_at hl 6 rfl) ?_
    refine lv_aload_n hx hb dFi_bringToMeans_27 rfl (lv_at hl 0 rfl) ?_
    refine va_get (D := (dC, dI)) (ci := 2) (v := .int f_rounds) (C := RFi) (T := TFi) (N := 5) hx hb hB hiFi hown hK hP 0 rfl rfl 4 (by decide) hL25 (fun _ h9 => h9) rfl dFi_bringToMeans_28 ?_
    refine lv_icmp_ge (tgt := 84) hx hb dFi_bringToMeans_31 (by decide) (fun c_5 => ?_) (fun c_5 => ?_)
    · have hv := hv.1 c_5
      refine lv_aload_n hx hb dFi_bringToMeans_84 rfl (lv_at hl 0 rfl) ?_
      refine va_get (D := (dC, dI)) (ci := 2) (v := .ref q_missed) (C := RFi) (T := TFi) (N := 5) hx hb hB hiFi hown hK hP 0 rfl rfl 1 (by decide) hL9 (fun _ h9 => h9) rfl dFi_bringToMeans_85 ?_
      refine lv_aload_n hx hb dFi_bringToMeans_88 rfl (lv_at hl 0 rfl) ?_
      refine va_get (D := (dC, dI)) (ci := 2) (v := .int f_rounds) (C := RFi) (T := TFi) (N := 5) hx hb hB hiFi hown hK hP 0 rfl rfl 4 (by decide) hL25 (fun _ h9 => h9) rfl dFi_bringToMeans_89 ?_
      refine lv_lload hx hb dFi_bringToMeans_92 (lv_at hl 4 rfl) ?_
      obtain ⟨h_6, hv⟩ := hv
      refine va_last hx hb hK hP hD hS 2 1 rfl rfl h_6 dFi_bringToMeans_94 (fun H locs hP hD hS => ?_)
      have hP : va_P (dC, dI) vwCl (wdFi_bringToMeans q_this q_taken q_missed q_shades q_shades_tint q_shades_many q_palette q_palette_levels q_pools q_pools_totals q_pools_many r_takers r_keys r_shades_rank r_shades_keys r_pools_means c_taken c_missed c_shades_tint c_shades_many c_palette_levels c_pools_totals c_pools_many n_taken n_missed n_shades_tint n_shades_many n_palette_levels n_pools_totals n_pools_many f_rounds f_taken (vp_updL f_missed f_rounds.toNatClampNeg v5) f_shades_size f_shades_stale f_shades_tint f_shades_many f_palette_size f_palette_levels f_pools_size f_pools_totals f_pools_many) H := hP
      have hD : va_D A (wdFi_bringToMeans q_this q_taken q_missed q_shades q_shades_tint q_shades_many q_palette q_palette_levels q_pools q_pools_totals q_pools_many r_takers r_keys r_shades_rank r_shades_keys r_pools_means c_taken c_missed c_shades_tint c_shades_many c_palette_levels c_pools_totals c_pools_many n_taken n_missed n_shades_tint n_shades_many n_palette_levels n_pools_totals n_pools_many f_rounds f_taken (vp_updL f_missed f_rounds.toNatClampNeg v5) f_shades_size f_shades_stale f_shades_tint f_shades_many f_palette_size f_palette_levels f_pools_size f_pools_totals f_pools_many) := hD
      exact W.vret hx hb hr (fun t ht hW => ⟨⟨(f_rounds, f_taken, vp_updL f_missed f_rounds.toNatClampNeg v5, f_palette_levels, f_pools_size, f_pools_totals, f_pools_many), rfl, hv, by rw [ht]; exact hP, hD⟩, hS.F ht⟩) hS.2.2 dFi_bringToMeans_95
    · have hv := hv.2 c_5
      refine lv_aload_n hx hb dFi_bringToMeans_34 rfl (lv_at hl 0 rfl) ?_
      refine va_get (D := (dC, dI)) (ci := 2) (v := .ref q_missed) (C := RFi) (T := TFi) (N := 5) hx hb hB hiFi hown hK hP 0 rfl rfl 1 (by decide) hL9 (fun _ h9 => h9) rfl dFi_bringToMeans_35 ?_
      refine lv_iload hx hb dFi_bringToMeans_38 (lv_at hl 6 rfl) ?_
      refine lv_lload hx hb dFi_bringToMeans_40 (lv_at hl 4 rfl) ?_
      obtain ⟨h_8, hv⟩ := hv
      refine va_last hx hb hK hP hD hS 2 1 rfl rfl h_8 dFi_bringToMeans_42 (fun H locs hP hD hS => ?_)
      have hP : va_P (dC, dI) vwCl (wdFi_bringToMeans q_this q_taken q_missed q_shades q_shades_tint q_shades_many q_palette q_palette_levels q_pools q_pools_totals q_pools_many r_takers r_keys r_shades_rank r_shades_keys r_pools_means c_taken c_missed c_shades_tint c_shades_many c_palette_levels c_pools_totals c_pools_many n_taken n_missed n_shades_tint n_shades_many n_palette_levels n_pools_totals n_pools_many f_rounds f_taken (vp_updL f_missed v8.toNatClampNeg v5) f_shades_size f_shades_stale f_shades_tint f_shades_many f_palette_size f_palette_levels f_pools_size f_pools_totals f_pools_many) H := hP
      have hD : va_D A (wdFi_bringToMeans q_this q_taken q_missed q_shades q_shades_tint q_shades_many q_palette q_palette_levels q_pools q_pools_totals q_pools_many r_takers r_keys r_shades_rank r_shades_keys r_pools_means c_taken c_missed c_shades_tint c_shades_many c_palette_levels c_pools_totals c_pools_many n_taken n_missed n_shades_tint n_shades_many n_palette_levels n_pools_totals n_pools_many f_rounds f_taken (vp_updL f_missed v8.toNatClampNeg v5) f_shades_size f_shades_stale f_shades_tint f_shades_many f_palette_size f_palette_levels f_pools_size f_pools_totals f_pools_many) := hD
      refine lv_iload hx hb dFi_bringToMeans_43 (lv_at hl 5 rfl) ?_
      refine lv_if_eq (tgt := 62) hx hb dFi_bringToMeans_45 (by decide) (fun c_10 => ?_) (fun c_10 => ?_)
      · have hv := hv.1 c_10
        exact j62 v5 v8 f_rounds f_taken (vp_updL f_missed v8.toNatClampNeg v5) f_palette_levels f_pools_size f_pools_totals f_pools_many hv _ _ _ hP hD hS (lv_sub hl [0, 1, 2, 3, 4, 6] rfl)
      · have hv := hv.2 c_10
        refine lv_aload_n hx hb dFi_bringToMeans_48 rfl (lv_at hl 0 rfl) ?_
        refine lv_aload_n hx hb dFi_bringToMeans_49 rfl (lv_at hl 1 rfl) ?_
        refine lv_aload_n hx hb dFi_bringToMeans_50 rfl (lv_at hl 2 rfl) ?_
        refine lv_aload_n hx hb dFi_bringToMeans_51 rfl (lv_at hl 3 rfl) ?_
        have hFc := va_free (wc := (wdFi_moveToMeans q_this q_taken q_shades q_shades_tint q_shades_many q_palette q_palette_levels q_pools q_pools_totals q_pools_many q_missed r_takers r_keys r_shades_rank r_shades_keys r_pools_means c_taken c_shades_tint c_shades_many c_palette_levels c_pools_totals c_pools_many n_taken n_shades_tint n_shades_many n_palette_levels n_pools_totals n_pools_many f_rounds f_taken f_shades_size f_shades_stale f_shades_tint f_shades_many f_palette_size f_palette_levels f_pools_size f_pools_totals f_pools_many)) hD hS hA [0, 1, 3, 4, 5, 6, 7, 8, 9, 10] rfl
        refine gx_i (wr := [(q_missed, .inl (c_missed, n_missed, .inr (.inl (vp_updL f_missed v8.toNatClampNeg v5))))]) (va_runV (As := [.ref q_shades, .ref q_palette, .ref q_pools]) (rest := []) ⟨hx, hb, hml, hown, hB⟩ (metFi_moveToMeans l dC dI q_this q_taken q_shades q_shades_tint q_shades_many q_palette q_palette_levels q_pools q_pools_totals q_pools_many q_missed r_takers r_keys r_shades_rank r_shades_keys r_pools_means c_taken c_shades_tint c_shades_many c_palette_levels c_pools_totals c_pools_many n_taken n_shades_tint n_shades_many n_palette_levels n_pools_totals n_pools_many H.size f_rounds f_taken f_shades_size f_shades_stale f_shades_tint f_shades_many f_palette_size f_palette_levels f_pools_size f_pools_totals f_pools_many hv) (cwV 3 hB (gx_gV bw487 bw488 bw17 bw51 bw489) rfl rfl rfl (by decide +kernel) ⟨(Nat.le_of_ble_eq_true rfl), (Nat.le_of_ble_eq_true rfl)⟩) (gx_preV (ci := 2) (hP.sub (ws' := (wdFi_moveToMeans q_this q_taken q_shades q_shades_tint q_shades_many q_palette q_palette_levels q_pools q_pools_totals q_pools_many q_missed r_takers r_keys r_shades_rank r_shades_keys r_pools_means c_taken c_shades_tint c_shades_many c_palette_levels c_pools_totals c_pools_many n_taken n_shades_tint n_shades_many n_palette_levels n_pools_totals n_pools_many f_rounds f_taken f_shades_size f_shades_stale f_shades_tint f_shades_many f_palette_size f_palette_levels f_pools_size f_pools_totals f_pools_many)) [0, 1, 3, 4, 5, 6, 7, 8, 9, 10] rfl) (hK.sub (tys' := [(c_taken, .int), (c_shades_tint, .int), (c_shades_many, .int), (c_palette_levels, .int), (c_pools_totals, .int), (c_pools_many, .int)]) [0, 2, 3, 4, 5, 6] rfl) (hD.sub (ws' := (wdFi_moveToMeans q_this q_taken q_shades q_shades_tint q_shades_many q_palette q_palette_levels q_pools q_pools_totals q_pools_many q_missed r_takers r_keys r_shades_rank r_shades_keys r_pools_means c_taken c_shades_tint c_shades_many c_palette_levels c_pools_totals c_pools_many n_taken n_shades_tint n_shades_many n_palette_levels n_pools_totals n_pools_many f_rounds f_taken f_shades_size f_shades_stale f_shades_tint f_shades_many f_palette_size f_palette_levels f_pools_size f_pools_totals f_pools_many)) [0, 1, 3, 4, 5, 6, 7, 8, 9, 10] (by decide) rfl) hZ hS hFc rfl rfl) rfl rfl hl.1 rfl (lv_room (Nat.le_of_ble_eq_true rfl)) dFi_bringToMeans_52 ⟨(Nat.le_of_ble_eq_true rfl), (Nat.le_of_ble_eq_true rfl)⟩) hP hD hS hFc [0, 1, 3, 4, 5, 6, 7, 8, 9, 10] [2] rfl rfl (by decide) (by decide) (fun r_15 u_16 H locs hv hP hD hS => ?_)
        obtain ⟨f_palette_levels_11, f_pools_size_12, f_pools_totals_13, f_pools_many_14⟩ := u_16
        have hP : va_P (dC, dI) vwCl (wdFi_bringToMeans q_this q_taken q_missed q_shades q_shades_tint q_shades_many q_palette q_palette_levels q_pools q_pools_totals q_pools_many r_takers r_keys r_shades_rank r_shades_keys r_pools_means c_taken c_missed c_shades_tint c_shades_many c_palette_levels c_pools_totals c_pools_many n_taken n_missed n_shades_tint n_shades_many n_palette_levels n_pools_totals n_pools_many f_rounds f_taken (vp_updL f_missed v8.toNatClampNeg v5) f_shades_size f_shades_stale f_shades_tint f_shades_many f_palette_size f_palette_levels_11 f_pools_size_12 f_pools_totals_13 f_pools_many_14) H := hP.sub [1, 2, 0, 3, 4, 5, 6, 7, 8, 9, 10] rfl
        have hD : va_D A (wdFi_bringToMeans q_this q_taken q_missed q_shades q_shades_tint q_shades_many q_palette q_palette_levels q_pools q_pools_totals q_pools_many r_takers r_keys r_shades_rank r_shades_keys r_pools_means c_taken c_missed c_shades_tint c_shades_many c_palette_levels c_pools_totals c_pools_many n_taken n_missed n_shades_tint n_shades_many n_palette_levels n_pools_totals n_pools_many f_rounds f_taken (vp_updL f_missed v8.toNatClampNeg v5) f_shades_size f_shades_stale f_shades_tint f_shades_many f_palette_size f_palette_levels_11 f_pools_size_12 f_pools_totals_13 f_pools_many_14) := hD.sub [1, 2, 0, 3, 4, 5, 6, 7, 8, 9, 10] (by decide) rfl
        refine lv_if_eq (tgt := 62) hx hb dFi_bringToMeans_55 (by decide) (fun c_17 => ?_) (fun c_17 => ?_)
        · have hv := hv.1 c_17
          exact j62 v5 v8 f_rounds f_taken (vp_updL f_missed v8.toNatClampNeg v5) f_palette_levels_11 f_pools_size_12 f_pools_totals_13 f_pools_many_14 hv _ _ _ hP hD hS (lv_sub hl [0, 1, 2, 3, 4, 6] rfl)
        · have hv := hv.2 c_17
          refine lv_iconst (v := 1) hx hb dFi_bringToMeans_58 (by decide) ?_
          refine lv_goto (tgt := 63) hx hb dFi_bringToMeans_59 (by decide) ?_
          exact j63 v5 v8 1 f_rounds f_taken (vp_updL f_missed v8.toNatClampNeg v5) f_palette_levels_11 f_pools_size_12 f_pools_totals_13 f_pools_many_14 hv _ _ _ hP hD hS (lv_sub hl [0, 1, 2, 3, 4, 6] rfl))
  rw [eG]
  refine lv_aload_n hx hb dFi_bringToMeans_0 rfl (lv_at hl 0 rfl) ?_
  refine lv_iload hx hb dFi_bringToMeans_1 (lv_at hl 4 rfl) ?_
  refine lv_bipush (v := 20) hx hb dFi_bringToMeans_3 (by decide) ?_
  refine va_mmin hx hb (by rw [hml]; exact hl.1.symm) hown (hB _ bw474) (hB _ bw74) (hB _ bw45) (hB _ bw75) (Nat.le_of_ble_eq_true rfl) (Nat.le_of_ble_eq_true rfl) (Nat.le_of_ble_eq_true rfl) (Nat.le_of_ble_eq_true rfl) dFi_bringToMeans_5 ?_
  refine lv_topi (fun w_18 ew_18 => ?_)
  have hv := hv w_18 ew_18
  refine va_put (D := (dC, dI)) (ci := 2) (v := .int w_18) (ty := .int) (C := RFi) (T := TFi) (N := 5) hx hb hB hiFi tFi tFi_ok nFi hown hK hP hD hS 0 rfl rfl 4 (by decide) hL25 (fun _ h9 => h9) rfl (by decide +kernel) rfl rfl (Nat.le_of_ble_eq_true rfl) dFi_bringToMeans_8 (fun H locs hP hD hS => ?_)
  have hP : va_P (dC, dI) vwCl (wdFi_bringToMeans q_this q_taken q_missed q_shades q_shades_tint q_shades_many q_palette q_palette_levels q_pools q_pools_totals q_pools_many r_takers r_keys r_shades_rank r_shades_keys r_pools_means c_taken c_missed c_shades_tint c_shades_many c_palette_levels c_pools_totals c_pools_many n_taken n_missed n_shades_tint n_shades_many n_palette_levels n_pools_totals n_pools_many w_18 f_taken f_missed f_shades_size f_shades_stale f_shades_tint f_shades_many f_palette_size f_palette_levels f_pools_size f_pools_totals f_pools_many) H := hP
  have hD : va_D A (wdFi_bringToMeans q_this q_taken q_missed q_shades q_shades_tint q_shades_many q_palette q_palette_levels q_pools q_pools_totals q_pools_many r_takers r_keys r_shades_rank r_shades_keys r_pools_means c_taken c_missed c_shades_tint c_shades_many c_palette_levels c_pools_totals c_pools_many n_taken n_missed n_shades_tint n_shades_many n_palette_levels n_pools_totals n_pools_many w_18 f_taken f_missed f_shades_size f_shades_stale f_shades_tint f_shades_many f_palette_size f_palette_levels f_pools_size f_pools_totals f_pools_many) := hD
  refine lv_aload_n hx hb dFi_bringToMeans_11 rfl (lv_at hl 0 rfl) ?_
  refine lv_aload_n hx hb dFi_bringToMeans_12 rfl (lv_at hl 1 rfl) ?_
  refine lv_aload_n hx hb dFi_bringToMeans_13 rfl (lv_at hl 2 rfl) ?_
  have hFc := va_free (wc := (wdFi_takeClosest q_this q_taken q_shades q_shades_tint q_shades_many q_palette q_palette_levels q_missed r_takers r_keys r_shades_rank r_shades_keys c_taken c_shades_tint c_shades_many c_palette_levels n_taken n_shades_tint n_shades_many n_palette_levels w_18 f_taken f_shades_size f_shades_stale f_shades_tint f_shades_many f_palette_size f_palette_levels)) hD hS hA [0, 1, 3, 4, 5, 6, 7] rfl
  refine gx_l (wr := [(q_missed, .inl (c_missed, n_missed, .inr (.inl f_missed))), (q_pools, .inr (5, [.ref q_pools_totals, .ref q_pools_many, .ref r_pools_means, .int f_pools_size])), (q_pools_totals, .inl (c_pools_totals, n_pools_totals, .inl f_pools_totals)), (q_pools_many, .inl (c_pools_many, n_pools_many, .inl f_pools_many))]) (va_runV (As := [.ref q_shades, .ref q_palette]) (rest := []) ⟨hx, hb, hml, hown, hB⟩ (metFi_takeClosest l dC dI q_this q_taken q_shades q_shades_tint q_shades_many q_palette q_palette_levels q_missed r_takers r_keys r_shades_rank r_shades_keys c_taken c_shades_tint c_shades_many c_palette_levels n_taken n_shades_tint n_shades_many n_palette_levels H.size w_18 f_taken f_shades_size f_shades_stale f_shades_tint f_shades_many f_palette_size f_palette_levels hv) (cwV 2 hB (gx_gV bw475 bw476 bw16 bw51 bw477) rfl rfl rfl (by decide +kernel) ⟨(Nat.le_of_ble_eq_true rfl), (Nat.le_of_ble_eq_true rfl)⟩) (gx_preV (ci := 2) (hP.sub (ws' := (wdFi_takeClosest q_this q_taken q_shades q_shades_tint q_shades_many q_palette q_palette_levels q_missed r_takers r_keys r_shades_rank r_shades_keys c_taken c_shades_tint c_shades_many c_palette_levels n_taken n_shades_tint n_shades_many n_palette_levels w_18 f_taken f_shades_size f_shades_stale f_shades_tint f_shades_many f_palette_size f_palette_levels)) [0, 1, 3, 4, 5, 6, 7] rfl) (hK.sub (tys' := [(c_taken, .int), (c_shades_tint, .int), (c_shades_many, .int), (c_palette_levels, .int)]) [0, 2, 3, 4] rfl) (hD.sub (ws' := (wdFi_takeClosest q_this q_taken q_shades q_shades_tint q_shades_many q_palette q_palette_levels q_missed r_takers r_keys r_shades_rank r_shades_keys c_taken c_shades_tint c_shades_many c_palette_levels n_taken n_shades_tint n_shades_many n_palette_levels w_18 f_taken f_shades_size f_shades_stale f_shades_tint f_shades_many f_palette_size f_palette_levels)) [0, 1, 3, 4, 5, 6, 7] (by decide) rfl) hZ hS hFc rfl rfl) rfl rfl hl.1 rfl (lv_room (Nat.le_of_ble_eq_true rfl)) dFi_bringToMeans_14 ⟨(Nat.le_of_ble_eq_true rfl), (Nat.le_of_ble_eq_true rfl)⟩) hP hD hS hFc [0, 1, 3, 4, 5, 6, 7] [2, 8, 9, 10] rfl rfl (by decide) (by decide) (fun r_20 u_21 H locs hv hP hD hS => ?_)
  obtain ⟨f_taken_19, rfl⟩ : ∃ z, z = u_21 := ⟨_, rfl⟩
  have hP : va_P (dC, dI) vwCl (wdFi_bringToMeans q_this q_taken q_missed q_shades q_shades_tint q_shades_many q_palette q_palette_levels q_pools q_pools_totals q_pools_many r_takers r_keys r_shades_rank r_shades_keys r_pools_means c_taken c_missed c_shades_tint c_shades_many c_palette_levels c_pools_totals c_pools_many n_taken n_missed n_shades_tint n_shades_many n_palette_levels n_pools_totals n_pools_many w_18 f_taken_19 f_missed f_shades_size f_shades_stale f_shades_tint f_shades_many f_palette_size f_palette_levels f_pools_size f_pools_totals f_pools_many) H := hP.sub [4, 5, 0, 6, 7, 8, 9, 10, 1, 2, 3] rfl
  have hD : va_D A (wdFi_bringToMeans q_this q_taken q_missed q_shades q_shades_tint q_shades_many q_palette q_palette_levels q_pools q_pools_totals q_pools_many r_takers r_keys r_shades_rank r_shades_keys r_pools_means c_taken c_missed c_shades_tint c_shades_many c_palette_levels c_pools_totals c_pools_many n_taken n_missed n_shades_tint n_shades_many n_palette_levels n_pools_totals n_pools_many w_18 f_taken_19 f_missed f_shades_size f_shades_stale f_shades_tint f_shades_many f_palette_size f_palette_levels f_pools_size f_pools_totals f_pools_many) := hD.sub [4, 5, 0, 6, 7, 8, 9, 10, 1, 2, 3] (by decide) rfl
  refine lv_lstore (lv' := [(5, .long r_20), (0, .ref q_this), (1, .ref q_shades), (2, .ref q_palette), (3, .ref q_pools), (4, .int x4)]) hx hb dFi_bringToMeans_17 hl (by decide) rfl (fun ls hl => ?_)
  refine lv_iconst (v := 1) hx hb dFi_bringToMeans_19 (by decide) ?_
  refine lv_istore (lv' := [(7, .int 1), (5, .long r_20), (0, .ref q_this), (1, .ref q_shades), (2, .ref q_palette), (3, .ref q_pools), (4, .int x4)]) hx hb dFi_bringToMeans_20 hl (by decide) rfl (fun ls hl => ?_)
  refine lv_iconst (v := 0) hx hb dFi_bringToMeans_22 (by decide) ?_
  refine lv_istore (lv' := [(8, .int 0), (7, .int 1), (5, .long r_20), (0, .ref q_this), (1, .ref q_shades), (2, .ref q_palette), (3, .ref q_pools), (4, .int x4)]) hx hb dFi_bringToMeans_23 hl (by decide) rfl (fun ls hl => ?_)
  rw [eK25, eG] at hv
  exact hv _ _ _ hP hD hS (lv_sub hl [3, 4, 5, 6, 2, 1, 0] rfl)
abbrev wdFi_putInOrder (q_this q_taken q_takers q_keys q_shades q_shades_tint q_shades_many q_palette q_palette_levels r_missed r_shades_rank r_shades_keys : Nat) (c_taken c_takers c_keys c_shades_tint c_shades_many c_palette_levels : ClassId) (n_taken n_takers n_keys n_shades_tint n_shades_many n_palette_levels : Nat) (f_rounds : Int32) (f_taken : Nat → Int32) (f_takers : Nat → Int32) (f_keys : Nat → Int64) (f_shades_size : Int32) (f_shades_stale : Int32) (f_shades_tint : Nat → Int32) (f_shades_many : Nat → Int32) (f_palette_size : Int32) (f_palette_levels : Nat → Int32) : va_W := [(q_this, .inr (2, [.ref q_taken, .ref r_missed, .ref q_takers, .ref q_keys, .int f_rounds])), (q_taken, .inl (c_taken, n_taken, .inl f_taken)), (q_takers, .inl (c_takers, n_takers, .inl f_takers)), (q_keys, .inl (c_keys, n_keys, .inr (.inl f_keys))), (q_shades, .inr (6, [.ref q_shades_tint, .ref q_shades_many, .ref r_shades_rank, .ref r_shades_keys, .int f_shades_size, .int f_shades_stale])), (q_shades_tint, .inl (c_shades_tint, n_shades_tint, .inl f_shades_tint)), (q_shades_many, .inl (c_shades_many, n_shades_many, .inl f_shades_many)), (q_palette, .inr (4, [.ref q_palette_levels, .int f_palette_size])), (q_palette_levels, .inl (c_palette_levels, n_palette_levels, .inl f_palette_levels))]
set_option maxHeartbeats 4000000 in
set_option maxRecDepth 100000 in
theorem metFi_putInOrder (l : Launch) (dC : Nat → ClassId) (dI : Nat → Nat → Nat) (q_this q_taken q_takers q_keys q_shades q_shades_tint q_shades_many q_palette q_palette_levels r_missed r_shades_rank r_shades_keys : Nat) (c_taken c_takers c_keys c_shades_tint c_shades_many c_palette_levels : ClassId) (n_taken n_takers n_keys n_shades_tint n_shades_many n_palette_levels : Nat) (sz : Nat) (f_rounds : Int32) (f_taken : Nat → Int32) (f_takers : Nat → Int32) (f_keys : Nat → Int64) (f_shades_size : Int32) (f_shades_stale : Int32) (f_shades_tint : Nat → Int32) (f_shades_many : Nat → Int32) (f_palette_size : Int32) (f_palette_levels : Nat → Int32) {post : (Nat → Int32) → (Nat → Int32) → (Nat → Int64) → (Nat → Int32) → Prop} (hw : wpFi_putInOrder n_taken n_takers n_keys n_shades_tint n_shades_many n_palette_levels f_rounds f_taken f_takers f_keys f_shades_size f_shades_stale f_shades_tint f_shades_many f_palette_size f_palette_levels post) : Met l yFi_putInOrder (.code yFi_putInOrder bFi_putInOrder 6 none :: BIG) ({ frames := 3, cells := 0, slots := 0, locals := 76 }) (va_Pc [.ref q_this, .ref q_shades, .ref q_palette] (gx_pre (dC, dI) vwCl (wdFi_putInOrder q_this q_taken q_takers q_keys q_shades q_shades_tint q_shades_many q_palette q_palette_levels r_missed r_shades_rank r_shades_keys c_taken c_takers c_keys c_shades_tint c_shades_many c_palette_levels n_taken n_takers n_keys n_shades_tint n_shades_many n_palette_levels f_rounds f_taken f_takers f_keys f_shades_size f_shades_stale f_shades_tint f_shades_many f_palette_size f_palette_levels) [(c_taken, .int), (c_takers, .int), (c_keys, .long), (c_shades_tint, .int), (c_shades_many, .int), (c_palette_levels, .int)] sz)) (va_Qv (fun (u : (Nat → Int32) × (Nat → Int32) × (Nat → Int64) × (Nat → Int32)) => post u.1 u.2.1 u.2.2.1 u.2.2.2) (gx_B (dC, dI) vwCl (va_A (wdFi_putInOrder q_this q_taken q_takers q_keys q_shades q_shades_tint q_shades_many q_palette q_palette_levels r_missed r_shades_rank r_shades_keys c_taken c_takers c_keys c_shades_tint c_shades_many c_palette_levels n_taken n_takers n_keys n_shades_tint n_shades_many n_palette_levels f_rounds f_taken f_takers f_keys f_shades_size f_shades_stale f_shades_tint f_shades_many f_palette_size f_palette_levels) sz) (fun (u : (Nat → Int32) × (Nat → Int32) × (Nat → Int64) × (Nat → Int32)) => (wdFi_putInOrder q_this q_taken q_takers q_keys q_shades q_shades_tint q_shades_many q_palette q_palette_levels r_missed r_shades_rank r_shades_keys c_taken c_takers c_keys c_shades_tint c_shades_many c_palette_levels n_taken n_takers n_keys n_shades_tint n_shades_many n_palette_levels f_rounds u.1 u.2.1 u.2.2.1 f_shades_size f_shades_stale f_shades_tint f_shades_many f_palette_size u.2.2.2))) (va_A (wdFi_putInOrder q_this q_taken q_takers q_keys q_shades q_shades_tint q_shades_many q_palette q_palette_levels r_missed r_shades_rank r_shades_keys c_taken c_takers c_keys c_shades_tint c_shades_many c_palette_levels n_taken n_takers n_keys n_shades_tint n_shades_many n_palette_levels f_rounds f_taken f_takers f_keys f_shades_size f_shades_stale f_shades_tint f_shades_many f_palette_size f_palette_levels) sz)) 0 0 (va_A (wdFi_putInOrder q_this q_taken q_takers q_keys q_shades q_shades_tint q_shades_many q_palette q_palette_levels r_missed r_shades_rank r_shades_keys c_taken c_takers c_keys c_shades_tint c_shades_many c_palette_levels n_taken n_takers n_keys n_shades_tint n_shades_many n_palette_levels f_rounds f_taken f_takers f_keys f_shades_size f_shades_stale f_shades_tint f_shades_many f_palette_size f_palette_levels) sz) := by
  refine Met.ofW (cc := bFi_putInOrder) (maxL := 6) (ret := none) (by decide) rfl ?_
  intro p e s m args below meth c s₁ B hml hv
  obtain ⟨rfl, hsz, hP, hK, hD0, hZ⟩ := hv
  have hx := B.exec
  have hb := B.bytes
  have hr := B.returns
  have hts := atoms_spec (ws := (.code yFi_putInOrder bFi_putInOrder 6 none :: BIG)) B.pre
  have hB : ∀ w ∈ BIG, w.before _ s = true := fun w h => hts w (List.mem_cons_of_mem _ h)
  have hown : s.vm.findClass RFi = some m.cls := findClass_of_methodNamed B.named
  have hlocks := B.notSynchronized
  subst hsz
  have hD := hD0.self (sz := s.heap.size)
  generalize hAe : va_A (wdFi_putInOrder q_this q_taken q_takers q_keys q_shades q_shades_tint q_shades_many q_palette q_palette_levels r_missed r_shades_rank r_shades_keys c_taken c_takers c_keys c_shades_tint c_shades_many c_palette_levels n_taken n_takers n_keys n_shades_tint n_shades_many n_palette_levels f_rounds f_taken f_takers f_keys f_shades_size f_shades_stale f_shades_tint f_shades_many f_palette_size f_palette_levels) s.heap.size = A at hD hZ ⊢
  have hA : ∀ q : Nat, s.heap.size ≤ q → A q := fun q h => by rw [← hAe]; exact Or.inr h
  have hS : va_S A s.heap s.heap [] := va_S.rf
  have hl := lv_entry ([.ref q_this, .ref q_shades, .ref q_palette]) (n := 6) (Nat.le_of_ble_eq_true rfl)
  rw [lg_entry_eq]
  generalize (lg_sl ([.ref q_this, .ref q_shades, .ref q_palette]) ++ List.replicate (6 - (lg_sl ([.ref q_this, .ref q_shades, .ref q_palette])).length) Slot.unset).toArray = ls at hl ⊢
  have hl : lv_has ls 6 [(0, .ref q_this), (1, .ref q_shades), (2, .ref q_palette)] := hl
  have hL15 := (hB _ bw182)
  have hL19 := (hB _ bw183)
  have hL22 := (hB _ bw178)
  have hL49 := (hB _ bw99)
  have hL54 := (hB _ bw90)
  have hL57 := (hB _ bw167)
  refine gx_abs (fun G eG => ?_)
  obtain ⟨K10, eK10⟩ : ∃ K : Int32 → (Nat → Int32) → (Nat → Int32) → (Nat → Int64) → (Nat → Int32) → Prop, K = fun v3 f_taken f_takers f_keys f_palette_levels => ∀ (H : Heap) (locs : List Loc) (ls : Array Slot), va_P (dC, dI) vwCl (wdFi_putInOrder q_this q_taken q_takers q_keys q_shades q_shades_tint q_shades_many q_palette q_palette_levels r_missed r_shades_rank r_shades_keys c_taken c_takers c_keys c_shades_tint c_shades_many c_palette_levels n_taken n_takers n_keys n_shades_tint n_shades_many n_palette_levels f_rounds f_taken f_takers f_keys f_shades_size f_shades_stale f_shades_tint f_shades_many f_palette_size f_palette_levels) H → va_D A (wdFi_putInOrder q_this q_taken q_takers q_keys q_shades q_shades_tint q_shades_many q_palette q_palette_levels r_missed r_shades_rank r_shades_keys c_taken c_takers c_keys c_shades_tint c_shades_many c_palette_levels n_taken n_takers n_keys n_shades_tint n_shades_many n_palette_levels f_rounds f_taken f_takers f_keys f_shades_size f_shades_stale f_shades_tint f_shades_many f_palette_size f_palette_levels) → va_S A s.heap H locs → lv_has ls 6 [(0, .ref q_this), (1, .ref q_shades), (2, .ref q_palette), (3, .int v3)] → G H locs 0 0 (F0 m 10 ls []) := ⟨_, rfl⟩
  obtain ⟨K46, eK46⟩ : ∃ K : Int32 → (Nat → Int32) → (Nat → Int32) → (Nat → Int64) → (Nat → Int32) → Prop, K = fun v3 f_taken f_takers f_keys f_palette_levels => ∀ (H : Heap) (locs : List Loc) (ls : Array Slot), va_P (dC, dI) vwCl (wdFi_putInOrder q_this q_taken q_takers q_keys q_shades q_shades_tint q_shades_many q_palette q_palette_levels r_missed r_shades_rank r_shades_keys c_taken c_takers c_keys c_shades_tint c_shades_many c_palette_levels n_taken n_takers n_keys n_shades_tint n_shades_many n_palette_levels f_rounds f_taken f_takers f_keys f_shades_size f_shades_stale f_shades_tint f_shades_many f_palette_size f_palette_levels) H → va_D A (wdFi_putInOrder q_this q_taken q_takers q_keys q_shades q_shades_tint q_shades_many q_palette q_palette_levels r_missed r_shades_rank r_shades_keys c_taken c_takers c_keys c_shades_tint c_shades_many c_palette_levels n_taken n_takers n_keys n_shades_tint n_shades_many n_palette_levels f_rounds f_taken f_takers f_keys f_shades_size f_shades_stale f_shades_tint f_shades_many f_palette_size f_palette_levels) → va_S A s.heap H locs → lv_has ls 6 [(0, .ref q_this), (1, .ref q_shades), (2, .ref q_palette), (3, .int v3)] → G H locs 0 0 (F0 m 46 ls []) := ⟨_, rfl⟩
  obtain ⟨K109, eK109⟩ : ∃ K : Int32 → (Nat → Int32) → (Nat → Int32) → (Nat → Int64) → (Nat → Int32) → Prop, K = fun v3 f_taken f_takers f_keys f_palette_levels => ∀ (H : Heap) (locs : List Loc) (ls : Array Slot), va_P (dC, dI) vwCl (wdFi_putInOrder q_this q_taken q_takers q_keys q_shades q_shades_tint q_shades_many q_palette q_palette_levels r_missed r_shades_rank r_shades_keys c_taken c_takers c_keys c_shades_tint c_shades_many c_palette_levels n_taken n_takers n_keys n_shades_tint n_shades_many n_palette_levels f_rounds f_taken f_takers f_keys f_shades_size f_shades_stale f_shades_tint f_shades_many f_palette_size f_palette_levels) H → va_D A (wdFi_putInOrder q_this q_taken q_takers q_keys q_shades q_shades_tint q_shades_many q_palette q_palette_levels r_missed r_shades_rank r_shades_keys c_taken c_takers c_keys c_shades_tint c_shades_many c_palette_levels n_taken n_takers n_keys n_shades_tint n_shades_many n_palette_levels f_rounds f_taken f_takers f_keys f_shades_size f_shades_stale f_shades_tint f_shades_many f_palette_size f_palette_levels) → va_S A s.heap H locs → lv_has ls 6 [(0, .ref q_this), (1, .ref q_shades), (2, .ref q_palette), (3, .int v3)] → G H locs 0 0 (F0 m 109 ls []) := ⟨_, rfl⟩
  unfold wpFi_putInOrder at hw
  have hv := hw K10 K46 K109
  have hv := hv (by
    intro v3 f_taken f_takers f_keys f_palette_levels hv
    rw [eK10]
    intro H locs ls hP hD hS hl
    rw [eG]
    unfold vcFi_putInOrder_10 at hv
    refine lv_iload_n hx hb dFi_putInOrder_10 rfl (lv_at hl 3 rfl) ?_
    refine lv_aload_n hx hb dFi_putInOrder_11 rfl (lv_at hl 1 rfl) ?_
    refine va_get (D := (dC, dI)) (ci := 6) (v := .int f_shades_size) (C := RSh) (T := TSh) (N := 6) hx hb hB hiSh hown hK hP 4 rfl rfl 4 (by decide) hL49 (fun _ h9 => h9) rfl dFi_putInOrder_12 ?_
    refine lv_icmp_ge (tgt := 44) hx hb dFi_putInOrder_15 (by decide) (fun c_1 => ?_) (fun c_1 => ?_)
    · have hv := hv.1 c_1
      refine lv_iconst (v := 0) hx hb dFi_putInOrder_44 (by decide) ?_
      refine lv_istore_n (lv' := [(3, .int 0), (0, .ref q_this), (1, .ref q_shades), (2, .ref q_palette)]) hx hb dFi_putInOrder_45 rfl hl (by decide) rfl (fun ls hl => ?_)
      rw [eK46, eG] at hv
      exact hv _ _ _ hP hD hS (lv_sub hl [1, 2, 3, 0] rfl)
    · have hv := hv.2 c_1
      refine lv_aload_n hx hb dFi_putInOrder_18 rfl (lv_at hl 0 rfl) ?_
      refine va_get (D := (dC, dI)) (ci := 2) (v := .ref q_takers) (C := RFi) (T := TFi) (N := 5) hx hb hB hiFi hown hK hP 0 rfl rfl 2 (by decide) hL15 (fun _ h9 => h9) rfl dFi_putInOrder_19 ?_
      refine lv_aload_n hx hb dFi_putInOrder_22 rfl (lv_at hl 0 rfl) ?_
      refine va_get (D := (dC, dI)) (ci := 2) (v := .ref q_taken) (C := RFi) (T := TFi) (N := 5) hx hb hB hiFi hown hK hP 0 rfl rfl 0 (by decide) hL22 (fun _ h9 => h9) rfl dFi_putInOrder_23 ?_
      refine lv_iload_n hx hb dFi_putInOrder_26 rfl (lv_at hl 3 rfl) ?_
      obtain ⟨h_2, hv⟩ := hv
      refine va_iald hx hb hK hP 1 0 rfl rfl h_2 dFi_putInOrder_27 ?_
      refine lv_dup2_11 hx hb dFi_putInOrder_28 rfl rfl ?_
      obtain ⟨h_3, hv⟩ := hv
      refine va_iald hx hb hK hP 2 1 rfl rfl h_3 dFi_putInOrder_29 ?_
      refine lv_aload_n hx hb dFi_putInOrder_30 rfl (lv_at hl 1 rfl) ?_
      refine va_get (D := (dC, dI)) (ci := 6) (v := .ref q_shades_many) (C := RSh) (T := TSh) (N := 6) hx hb hB hiSh hown hK hP 4 rfl rfl 1 (by decide) hL54 (fun _ h9 => h9) rfl dFi_putInOrder_31 ?_
      refine lv_iload_n hx hb dFi_putInOrder_34 rfl (lv_at hl 3 rfl) ?_
      obtain ⟨h_4, hv⟩ := hv
      refine va_iald hx hb hK hP 6 4 rfl rfl h_4 dFi_putInOrder_35 ?_
      refine lv_iadd hx hb dFi_putInOrder_36 ?_
      obtain ⟨h_5, hv⟩ := hv
      refine va_iast hx hb hK hP hD hS 2 1 rfl rfl h_5 dFi_putInOrder_37 (fun H locs hP hD hS => ?_)
      have hP : va_P (dC, dI) vwCl (wdFi_putInOrder q_this q_taken q_takers q_keys q_shades q_shades_tint q_shades_many q_palette q_palette_levels r_missed r_shades_rank r_shades_keys c_taken c_takers c_keys c_shades_tint c_shades_many c_palette_levels n_taken n_takers n_keys n_shades_tint n_shades_many n_palette_levels f_rounds f_taken (upd f_takers (f_taken v3.toNatClampNeg).toNatClampNeg ((f_takers (f_taken v3.toNatClampNeg).toNatClampNeg) + (f_shades_many v3.toNatClampNeg))) f_keys f_shades_size f_shades_stale f_shades_tint f_shades_many f_palette_size f_palette_levels) H := hP
      have hD : va_D A (wdFi_putInOrder q_this q_taken q_takers q_keys q_shades q_shades_tint q_shades_many q_palette q_palette_levels r_missed r_shades_rank r_shades_keys c_taken c_takers c_keys c_shades_tint c_shades_many c_palette_levels n_taken n_takers n_keys n_shades_tint n_shades_many n_palette_levels f_rounds f_taken (upd f_takers (f_taken v3.toNatClampNeg).toNatClampNeg ((f_takers (f_taken v3.toNatClampNeg).toNatClampNeg) + (f_shades_many v3.toNatClampNeg))) f_keys f_shades_size f_shades_stale f_shades_tint f_shades_many f_palette_size f_palette_levels) := hD
      refine lv_iinc (v := v3 + 1) (lv' := [(3, .int (v3 + 1)), (0, .ref q_this), (1, .ref q_shades), (2, .ref q_palette)]) hx hb dFi_putInOrder_38 hl (k := 3) rfl rfl (by decide) rfl (fun ls hl => ?_)
      refine lv_goto (tgt := 10) hx hb dFi_putInOrder_41 (by decide) ?_
      rw [eK10, eG] at hv
      exact hv _ _ _ hP hD hS (lv_sub hl [1, 2, 3, 0] rfl))
  have hv := hv (by
    intro v3 f_taken f_takers f_keys f_palette_levels hv
    rw [eK46]
    intro H locs ls hP hD hS hl
    rw [eG]
    unfold vcFi_putInOrder_46 at hv
    refine lv_iload_n hx hb dFi_putInOrder_46 rfl (lv_at hl 3 rfl) ?_
    refine lv_aload_n hx hb dFi_putInOrder_47 rfl (lv_at hl 2 rfl) ?_
    refine va_get (D := (dC, dI)) (ci := 4) (v := .int f_palette_size) (C := RPa) (T := TPa) (N := 2) hx hb hB hiPa hown hK hP 7 rfl rfl 1 (by decide) hL57 (fun _ h9 => h9) rfl dFi_putInOrder_48 ?_
    refine lv_icmp_ge (tgt := 95) hx hb dFi_putInOrder_51 (by decide) (fun c_7 => ?_) (fun c_7 => ?_)
    · have hv := hv.1 c_7
      refine lv_aload_n hx hb dFi_putInOrder_95 rfl (lv_at hl 0 rfl) ?_
      refine va_get (D := (dC, dI)) (ci := 2) (v := .ref q_keys) (C := RFi) (T := TFi) (N := 5) hx hb hB hiFi hown hK hP 0 rfl rfl 3 (by decide) hL19 (fun _ h9 => h9) rfl dFi_putInOrder_96 ?_
      refine lv_iconst (v := 0) hx hb dFi_putInOrder_99 (by decide) ?_
      refine lv_aload_n hx hb dFi_putInOrder_100 rfl (lv_at hl 2 rfl) ?_
      refine va_get (D := (dC, dI)) (ci := 4) (v := .int f_palette_size) (C := RPa) (T := TPa) (N := 2) hx hb hB hiPa hown hK hP 7 rfl rfl 1 (by decide) hL57 (fun _ h9 => h9) rfl dFi_putInOrder_101 ?_
      have hFc := va_free (wc := (wdCL_sortKeys q_keys c_keys n_keys f_keys)) hD hS hA [3] rfl
      refine gx_v (wr := [(q_this, .inr (2, [.ref q_taken, .ref r_missed, .ref q_takers, .ref q_keys, .int f_rounds])), (q_taken, .inl (c_taken, n_taken, .inl f_taken)), (q_takers, .inl (c_takers, n_takers, .inl f_takers)), (q_shades, .inr (6, [.ref q_shades_tint, .ref q_shades_many, .ref r_shades_rank, .ref r_shades_keys, .int f_shades_size, .int f_shades_stale])), (q_shades_tint, .inl (c_shades_tint, n_shades_tint, .inl f_shades_tint)), (q_shades_many, .inl (c_shades_many, n_shades_many, .inl f_shades_many)), (q_palette, .inr (4, [.ref q_palette_levels, .int f_palette_size])), (q_palette_levels, .inl (c_palette_levels, n_palette_levels, .inl f_palette_levels))]) (va_runSN (As := [.ref q_keys, .int 0, .int f_palette_size]) (rest := []) ⟨hx, hb, hml, hown, hB⟩ (metCL_sortKeys l dC dI q_keys c_keys n_keys H.size f_keys 0 f_palette_size hv) ⟨va_cnB 3 hB (gx_gN bw235) rfl rfl rfl (hZ.1 _ (List.mem_of_getElem? (i := 22) rfl)) (hB _ bw44) (by decide +kernel) ⟨(Nat.le_of_ble_eq_true rfl), (Nat.le_of_ble_eq_true rfl)⟩, (hB _ bw234), trivial⟩ (gx_preS (hP.sub (ws' := (wdCL_sortKeys q_keys c_keys n_keys f_keys)) [3] rfl) (hK.sub (tys' := [(c_keys, .long)]) [2] rfl) (hD.sub (ws' := (wdCL_sortKeys q_keys c_keys n_keys f_keys)) [3] (by decide) rfl) hZ hS hFc) rfl rfl hl.1 rfl (lv_room (Nat.le_of_ble_eq_true rfl)) dFi_putInOrder_104 ⟨(Nat.le_of_ble_eq_true rfl), (Nat.le_of_ble_eq_true rfl)⟩) hP hD hS hFc [3] [0, 1, 2, 4, 5, 6, 7, 8] rfl rfl (by decide) (by decide) (fun u_9 H locs hv hP hD hS => ?_)
      obtain ⟨f_keys_8, rfl⟩ : ∃ z, z = u_9 := ⟨_, rfl⟩
      have hP : va_P (dC, dI) vwCl (wdFi_putInOrder q_this q_taken q_takers q_keys q_shades q_shades_tint q_shades_many q_palette q_palette_levels r_missed r_shades_rank r_shades_keys c_taken c_takers c_keys c_shades_tint c_shades_many c_palette_levels n_taken n_takers n_keys n_shades_tint n_shades_many n_palette_levels f_rounds f_taken f_takers f_keys_8 f_shades_size f_shades_stale f_shades_tint f_shades_many f_palette_size f_palette_levels) H := hP.sub [0, 1, 2, 8, 3, 4, 5, 6, 7] rfl
      have hD : va_D A (wdFi_putInOrder q_this q_taken q_takers q_keys q_shades q_shades_tint q_shades_many q_palette q_palette_levels r_missed r_shades_rank r_shades_keys c_taken c_takers c_keys c_shades_tint c_shades_many c_palette_levels n_taken n_takers n_keys n_shades_tint n_shades_many n_palette_levels f_rounds f_taken f_takers f_keys_8 f_shades_size f_shades_stale f_shades_tint f_shades_many f_palette_size f_palette_levels) := hD.sub [0, 1, 2, 8, 3, 4, 5, 6, 7] (by decide) rfl
      refine lv_iconst (v := 0) hx hb dFi_putInOrder_107 (by decide) ?_
      refine lv_istore_n (lv' := [(3, .int 0), (0, .ref q_this), (1, .ref q_shades), (2, .ref q_palette)]) hx hb dFi_putInOrder_108 rfl hl (by decide) rfl (fun ls hl => ?_)
      rw [eK109, eG] at hv
      exact hv _ _ _ hP hD hS (lv_sub hl [1, 2, 3, 0] rfl)
    · have hv := hv.2 c_7
      refine lv_sipush (v := 576) hx hb dFi_putInOrder_54 (by decide) ?_
      refine lv_aload_n hx hb dFi_putInOrder_57 rfl (lv_at hl 0 rfl) ?_
      refine va_get (D := (dC, dI)) (ci := 2) (v := .ref q_takers) (C := RFi) (T := TFi) (N := 5) hx hb hB hiFi hown hK hP 0 rfl rfl 2 (by decide) hL15 (fun _ h9 => h9) rfl dFi_putInOrder_58 ?_
      refine lv_iload_n hx hb dFi_putInOrder_61 rfl (lv_at hl 3 rfl) ?_
      obtain ⟨h_10, hv⟩ := hv
      refine va_iald hx hb hK hP 2 1 rfl rfl h_10 dFi_putInOrder_62 ?_
      refine lv_isub hx hb dFi_putInOrder_63 ?_
      refine lv_i2l hx hb dFi_putInOrder_64 rfl ?_
      refine lv_topl (fun v4_11 ev4_11 => ?_)
      have hv := hv v4_11 ev4_11
      refine lv_lstore (lv' := [(4, .long v4_11), (0, .ref q_this), (1, .ref q_shades), (2, .ref q_palette), (3, .int v3)]) hx hb dFi_putInOrder_65 hl (by decide) rfl (fun ls hl => ?_)
      refine lv_aload_n hx hb dFi_putInOrder_67 rfl (lv_at hl 1 rfl) ?_
      refine va_get (D := (dC, dI)) (ci := 2) (v := .ref q_keys) (C := RFi) (T := TFi) (N := 5) hx hb hB hiFi hown hK hP 0 rfl rfl 3 (by decide) hL19 (fun _ h9 => h9) rfl dFi_putInOrder_68 ?_
      refine lv_iload_n hx hb dFi_putInOrder_71 rfl (lv_at hl 4 rfl) ?_
      refine lv_lload hx hb dFi_putInOrder_72 (lv_at hl 0 rfl) ?_
      refine lv_bipush (v := 32) hx hb dFi_putInOrder_74 (by decide) ?_
      refine lv_lshl hx hb dFi_putInOrder_76 rfl ?_
      refine lv_aload_n hx hb dFi_putInOrder_77 rfl (lv_at hl 3 rfl) ?_
      refine lv_iload_n hx hb dFi_putInOrder_78 rfl (lv_at hl 4 rfl) ?_
      refine gx_ri (va_runV (As := [.int v3]) (rest := [.long (v4_11 <<< ((32 : Int32).toInt64 &&& 63)), .int v3, .ref q_keys]) ⟨hx, hb, hml, hown, hB⟩ (metPa_packedOf l dC dI q_palette q_palette_levels c_palette_levels n_palette_levels H.size f_palette_size f_palette_levels v3 hv) (cwV 1 hB (gx_gV bw483 bw484 bw485 bw50 bw486) rfl rfl rfl (by decide +kernel) ⟨(Nat.le_of_ble_eq_true rfl), (Nat.le_of_ble_eq_true rfl)⟩) (gx_rpreV (ci := 4) (hP.sub (ws' := (wdPa_packedOf q_palette q_palette_levels c_palette_levels n_palette_levels f_palette_size f_palette_levels)) [7, 8] rfl) (hK.sub (tys' := [(c_palette_levels, .int)]) [5] rfl) hZ hS hA rfl rfl) rfl rfl hl.1 rfl (lv_room (Nat.le_of_ble_eq_true rfl)) dFi_putInOrder_79 ⟨(Nat.le_of_ble_eq_true rfl), (Nat.le_of_ble_eq_true rfl)⟩) hP hS hA (fun r_12 H locs hv hP hS => ?_)
      refine lv_i2l hx hb dFi_putInOrder_82 rfl ?_
      refine lv_ldc2 (v := 4294967295) hx hb hown (hB _ bw499) dFi_putInOrder_83 ?_
      refine lv_land hx hb dFi_putInOrder_86 ?_
      refine lv_lor hx hb dFi_putInOrder_87 ?_
      obtain ⟨h_14, hv⟩ := hv
      refine va_last hx hb hK hP hD hS 3 2 rfl rfl h_14 dFi_putInOrder_88 (fun H locs hP hD hS => ?_)
      have hP : va_P (dC, dI) vwCl (wdFi_putInOrder q_this q_taken q_takers q_keys q_shades q_shades_tint q_shades_many q_palette q_palette_levels r_missed r_shades_rank r_shades_keys c_taken c_takers c_keys c_shades_tint c_shades_many c_palette_levels n_taken n_takers n_keys n_shades_tint n_shades_many n_palette_levels f_rounds f_taken f_takers (vp_updL f_keys v3.toNatClampNeg ((v4_11 <<< ((32 : Int32).toInt64 &&& 63)) ||| (r_12.toInt64 &&& 4294967295))) f_shades_size f_shades_stale f_shades_tint f_shades_many f_palette_size f_palette_levels) H := hP
      have hD : va_D A (wdFi_putInOrder q_this q_taken q_takers q_keys q_shades q_shades_tint q_shades_many q_palette q_palette_levels r_missed r_shades_rank r_shades_keys c_taken c_takers c_keys c_shades_tint c_shades_many c_palette_levels n_taken n_takers n_keys n_shades_tint n_shades_many n_palette_levels f_rounds f_taken f_takers (vp_updL f_keys v3.toNatClampNeg ((v4_11 <<< ((32 : Int32).toInt64 &&& 63)) ||| (r_12.toInt64 &&& 4294967295))) f_shades_size f_shades_stale f_shades_tint f_shades_many f_palette_size f_palette_levels) := hD
      refine lv_iinc (v := v3 + 1) (lv' := [(3, .int (v3 + 1)), (4, .long v4_11), (0, .ref q_this), (1, .ref q_shades), (2, .ref q_palette)]) hx hb dFi_putInOrder_89 hl (k := 4) rfl rfl (by decide) rfl (fun ls hl => ?_)
      refine lv_goto (tgt := 46) hx hb dFi_putInOrder_92 (by decide) ?_
      rw [eK46, eG] at hv
      exact hv _ _ _ hP hD hS (lv_sub hl [2, 3, 4, 0] rfl))
  have hv := hv (by
    intro v3 f_taken f_takers f_keys f_palette_levels hv
    rw [eK109]
    intro H locs ls hP hD hS hl
    rw [eG]
    unfold vcFi_putInOrder_109 at hv
    refine lv_iload_n hx hb dFi_putInOrder_109 rfl (lv_at hl 3 rfl) ?_
    refine lv_aload_n hx hb dFi_putInOrder_110 rfl (lv_at hl 2 rfl) ?_
    refine va_get (D := (dC, dI)) (ci := 4) (v := .int f_palette_size) (C := RPa) (T := TPa) (N := 2) hx hb hB hiPa hown hK hP 7 rfl rfl 1 (by decide) hL57 (fun _ h9 => h9) rfl dFi_putInOrder_111 ?_
    refine lv_icmp_ge (tgt := 135) hx hb dFi_putInOrder_114 (by decide) (fun c_16 => ?_) (fun c_16 => ?_)
    · have hv := hv.1 c_16
      refine lv_aload_n hx hb dFi_putInOrder_135 rfl (lv_at hl 0 rfl) ?_
      refine lv_aload_n hx hb dFi_putInOrder_136 rfl (lv_at hl 1 rfl) ?_
      refine lv_aload_n hx hb dFi_putInOrder_137 rfl (lv_at hl 2 rfl) ?_
      have hFc := va_free (wc := (wdFi_takeClosest q_this q_taken q_shades q_shades_tint q_shades_many q_palette q_palette_levels r_missed q_takers q_keys r_shades_rank r_shades_keys c_taken c_shades_tint c_shades_many c_palette_levels n_taken n_shades_tint n_shades_many n_palette_levels f_rounds f_taken f_shades_size f_shades_stale f_shades_tint f_shades_many f_palette_size f_palette_levels)) hD hS hA [0, 1, 4, 5, 6, 7, 8] rfl
      refine gx_l (wr := [(q_takers, .inl (c_takers, n_takers, .inl f_takers)), (q_keys, .inl (c_keys, n_keys, .inr (.inl f_keys)))]) (va_runV (As := [.ref q_shades, .ref q_palette]) (rest := []) ⟨hx, hb, hml, hown, hB⟩ (metFi_takeClosest l dC dI q_this q_taken q_shades q_shades_tint q_shades_many q_palette q_palette_levels r_missed q_takers q_keys r_shades_rank r_shades_keys c_taken c_shades_tint c_shades_many c_palette_levels n_taken n_shades_tint n_shades_many n_palette_levels H.size f_rounds f_taken f_shades_size f_shades_stale f_shades_tint f_shades_many f_palette_size f_palette_levels hv) (cwV 2 hB (gx_gV bw475 bw476 bw16 bw51 bw477) rfl rfl rfl (by decide +kernel) ⟨(Nat.le_of_ble_eq_true rfl), (Nat.le_of_ble_eq_true rfl)⟩) (gx_preV (ci := 2) (hP.sub (ws' := (wdFi_takeClosest q_this q_taken q_shades q_shades_tint q_shades_many q_palette q_palette_levels r_missed q_takers q_keys r_shades_rank r_shades_keys c_taken c_shades_tint c_shades_many c_palette_levels n_taken n_shades_tint n_shades_many n_palette_levels f_rounds f_taken f_shades_size f_shades_stale f_shades_tint f_shades_many f_palette_size f_palette_levels)) [0, 1, 4, 5, 6, 7, 8] rfl) (hK.sub (tys' := [(c_taken, .int), (c_shades_tint, .int), (c_shades_many, .int), (c_palette_levels, .int)]) [0, 3, 4, 5] rfl) (hD.sub (ws' := (wdFi_takeClosest q_this q_taken q_shades q_shades_tint q_shades_many q_palette q_palette_levels r_missed q_takers q_keys r_shades_rank r_shades_keys c_taken c_shades_tint c_shades_many c_palette_levels n_taken n_shades_tint n_shades_many n_palette_levels f_rounds f_taken f_shades_size f_shades_stale f_shades_tint f_shades_many f_palette_size f_palette_levels)) [0, 1, 4, 5, 6, 7, 8] (by decide) rfl) hZ hS hFc rfl rfl) rfl rfl hl.1 rfl (lv_room (Nat.le_of_ble_eq_true rfl)) dFi_putInOrder_138 ⟨(Nat.le_of_ble_eq_true rfl), (Nat.le_of_ble_eq_true rfl)⟩) hP hD hS hFc [0, 1, 4, 5, 6, 7, 8] [2, 3] rfl rfl (by decide) (by decide) (fun r_18 u_19 H locs hv hP hD hS => ?_)
      obtain ⟨f_taken_17, rfl⟩ : ∃ z, z = u_19 := ⟨_, rfl⟩
      have hP : va_P (dC, dI) vwCl (wdFi_putInOrder q_this q_taken q_takers q_keys q_shades q_shades_tint q_shades_many q_palette q_palette_levels r_missed r_shades_rank r_shades_keys c_taken c_takers c_keys c_shades_tint c_shades_many c_palette_levels n_taken n_takers n_keys n_shades_tint n_shades_many n_palette_levels f_rounds f_taken_17 f_takers f_keys f_shades_size f_shades_stale f_shades_tint f_shades_many f_palette_size f_palette_levels) H := hP.sub [2, 3, 0, 1, 4, 5, 6, 7, 8] rfl
      have hD : va_D A (wdFi_putInOrder q_this q_taken q_takers q_keys q_shades q_shades_tint q_shades_many q_palette q_palette_levels r_missed r_shades_rank r_shades_keys c_taken c_takers c_keys c_shades_tint c_shades_many c_palette_levels n_taken n_takers n_keys n_shades_tint n_shades_many n_palette_levels f_rounds f_taken_17 f_takers f_keys f_shades_size f_shades_stale f_shades_tint f_shades_many f_palette_size f_palette_levels) := hD.sub [2, 3, 0, 1, 4, 5, 6, 7, 8] (by decide) rfl
      refine lv_pop2_2 hx hb dFi_putInOrder_141 rfl ?_
      exact W.vret hx hb hr (fun t ht hW => ⟨⟨(f_taken_17, f_takers, f_keys, f_palette_levels), rfl, hv, by rw [ht]; exact hP, hD⟩, hS.F ht⟩) hS.2.2 dFi_putInOrder_142
    · have hv := hv.2 c_16
      refine lv_aload_n hx hb dFi_putInOrder_117 rfl (lv_at hl 2 rfl) ?_
      refine lv_iload_n hx hb dFi_putInOrder_118 rfl (lv_at hl 3 rfl) ?_
      refine lv_aload_n hx hb dFi_putInOrder_119 rfl (lv_at hl 0 rfl) ?_
      refine va_get (D := (dC, dI)) (ci := 2) (v := .ref q_keys) (C := RFi) (T := TFi) (N := 5) hx hb hB hiFi hown hK hP 0 rfl rfl 3 (by decide) hL19 (fun _ h9 => h9) rfl dFi_putInOrder_120 ?_
      refine lv_iload_n hx hb dFi_putInOrder_123 rfl (lv_at hl 3 rfl) ?_
      obtain ⟨h_20, hv⟩ := hv
      refine va_lald hx hb hK hP 3 2 rfl rfl h_20 dFi_putInOrder_124 ?_
      refine lv_l2i hx hb dFi_putInOrder_125 rfl ?_
      have hFc := va_free (wc := (wdPa_replace q_palette q_palette_levels c_palette_levels n_palette_levels f_palette_size f_palette_levels)) hD hS hA [7, 8] rfl
      refine gx_v (wr := [(q_this, .inr (2, [.ref q_taken, .ref r_missed, .ref q_takers, .ref q_keys, .int f_rounds])), (q_taken, .inl (c_taken, n_taken, .inl f_taken)), (q_takers, .inl (c_takers, n_takers, .inl f_takers)), (q_keys, .inl (c_keys, n_keys, .inr (.inl f_keys))), (q_shades, .inr (6, [.ref q_shades_tint, .ref q_shades_many, .ref r_shades_rank, .ref r_shades_keys, .int f_shades_size, .int f_shades_stale])), (q_shades_tint, .inl (c_shades_tint, n_shades_tint, .inl f_shades_tint)), (q_shades_many, .inl (c_shades_many, n_shades_many, .inl f_shades_many))]) (va_runV (As := [.int v3, .int ((f_keys v3.toNatClampNeg).toInt32)]) (rest := []) ⟨hx, hb, hml, hown, hB⟩ (metPa_replace l dC dI q_palette q_palette_levels c_palette_levels n_palette_levels H.size f_palette_size f_palette_levels v3 ((f_keys v3.toNatClampNeg).toInt32) hv) (cwV 2 hB (gx_gV bw493 bw391 bw392 bw50 bw393) rfl rfl rfl (by decide +kernel) ⟨(Nat.le_of_ble_eq_true rfl), (Nat.le_of_ble_eq_true rfl)⟩) (gx_preV (ci := 4) (hP.sub (ws' := (wdPa_replace q_palette q_palette_levels c_palette_levels n_palette_levels f_palette_size f_palette_levels)) [7, 8] rfl) (hK.sub (tys' := [(c_palette_levels, .int)]) [5] rfl) (hD.sub (ws' := (wdPa_replace q_palette q_palette_levels c_palette_levels n_palette_levels f_palette_size f_palette_levels)) [7, 8] (by decide) rfl) hZ hS hFc rfl rfl) rfl rfl hl.1 rfl (lv_room (Nat.le_of_ble_eq_true rfl)) dFi_putInOrder_126 ⟨(Nat.le_of_ble_eq_true rfl), (Nat.le_of_ble_eq_true rfl)⟩) hP hD hS hFc [7, 8] [0, 1, 2, 3, 4, 5, 6] rfl rfl (by decide) (by decide) (fun u_22 H locs hv hP hD hS => ?_)
      obtain ⟨f_palette_levels_21, rfl⟩ : ∃ z, z = u_22 := ⟨_, rfl⟩
      have hP : va_P (dC, dI) vwCl (wdFi_putInOrder q_this q_taken q_takers q_keys q_shades q_shades_tint q_shades_many q_palette q_palette_levels r_missed r_shades_rank r_shades_keys c_taken c_takers c_keys c_shades_tint c_shades_many c_palette_levels n_taken n_takers n_keys n_shades_tint n_shades_many n_palette_levels f_rounds f_taken f_takers f_keys f_shades_size f_shades_stale f_shades_tint f_shades_many f_palette_size f_palette_levels_21) H := hP.sub [0, 1, 2, 3, 4, 5, 6, 7, 8] rfl
      have hD : va_D A (wdFi_putInOrder q_this q_taken q_takers q_keys q_shades q_shades_tint q_shades_many q_palette q_palette_levels r_missed r_shades_rank r_shades_keys c_taken c_takers c_keys c_shades_tint c_shades_many c_palette_levels n_taken n_takers n_keys n_shades_tint n_shades_many n_palette_levels f_rounds f_taken f_takers f_keys f_shades_size f_shades_stale f_shades_tint f_shades_many f_palette_size f_palette_levels_21) := hD.sub [0, 1, 2, 3, 4, 5, 6, 7, 8] (by decide) rfl
      refine lv_iinc (v := v3 + 1) (lv' := [(3, .int (v3 + 1)), (0, .ref q_this), (1, .ref q_shades), (2, .ref q_palette)]) hx hb dFi_putInOrder_129 hl (k := 3) rfl rfl (by decide) rfl (fun ls hl => ?_)
      refine lv_goto (tgt := 109) hx hb dFi_putInOrder_132 (by decide) ?_
      rw [eK109, eG] at hv
      exact hv _ _ _ hP hD hS (lv_sub hl [1, 2, 3, 0] rfl))
  rw [eG]
  refine lv_aload_n hx hb dFi_putInOrder_0 rfl (lv_at hl 0 rfl) ?_
  refine va_get (D := (dC, dI)) (ci := 2) (v := .ref q_takers) (C := RFi) (T := TFi) (N := 5) hx hb hB hiFi hown hK hP 0 rfl rfl 2 (by decide) hL15 (fun _ h9 => h9) rfl dFi_putInOrder_1 ?_
  refine lv_iconst (v := 0) hx hb dFi_putInOrder_4 (by decide) ?_
  have hFc := va_free (wc := (wdAr_fill q_takers c_takers n_takers f_takers)) hD hS hA [2] rfl
  refine gx_v (wr := [(q_this, .inr (2, [.ref q_taken, .ref r_missed, .ref q_takers, .ref q_keys, .int f_rounds])), (q_taken, .inl (c_taken, n_taken, .inl f_taken)), (q_keys, .inl (c_keys, n_keys, .inr (.inl f_keys))), (q_shades, .inr (6, [.ref q_shades_tint, .ref q_shades_many, .ref r_shades_rank, .ref r_shades_keys, .int f_shades_size, .int f_shades_stale])), (q_shades_tint, .inl (c_shades_tint, n_shades_tint, .inl f_shades_tint)), (q_shades_many, .inl (c_shades_many, n_shades_many, .inl f_shades_many)), (q_palette, .inr (4, [.ref q_palette_levels, .int f_palette_size])), (q_palette_levels, .inl (c_palette_levels, n_palette_levels, .inl f_palette_levels))]) (va_runS (As := [.ref q_takers, .int 0]) (rest := []) ⟨hx, hb, hml, hown, hB⟩ (metAr_fill l dC dI q_takers c_takers n_takers s.heap.size f_takers 0 hv) (va_cwS 2 hB (gx_gS bw498 bw248 bw59 bw249) rfl rfl rfl (by decide +kernel) ⟨(Nat.le_of_ble_eq_true rfl), (Nat.le_of_ble_eq_true rfl)⟩) (gx_preS (hP.sub (ws' := (wdAr_fill q_takers c_takers n_takers f_takers)) [2] rfl) (hK.sub (tys' := [(c_takers, .int)]) [1] rfl) (hD.sub (ws' := (wdAr_fill q_takers c_takers n_takers f_takers)) [2] (by decide) rfl) hZ hS hFc) rfl rfl hl.1 rfl (lv_room (Nat.le_of_ble_eq_true rfl)) dFi_putInOrder_5 ⟨(Nat.le_of_ble_eq_true rfl), (Nat.le_of_ble_eq_true rfl)⟩) hP hD hS hFc [2] [0, 1, 3, 4, 5, 6, 7, 8] rfl rfl (by decide) (by decide) (fun u_24 H locs hv hP hD hS => ?_)
  obtain ⟨f_takers_23, rfl⟩ : ∃ z, z = u_24 := ⟨_, rfl⟩
  have hP : va_P (dC, dI) vwCl (wdFi_putInOrder q_this q_taken q_takers q_keys q_shades q_shades_tint q_shades_many q_palette q_palette_levels r_missed r_shades_rank r_shades_keys c_taken c_takers c_keys c_shades_tint c_shades_many c_palette_levels n_taken n_takers n_keys n_shades_tint n_shades_many n_palette_levels f_rounds f_taken f_takers_23 f_keys f_shades_size f_shades_stale f_shades_tint f_shades_many f_palette_size f_palette_levels) H := hP.sub [0, 1, 8, 2, 3, 4, 5, 6, 7] rfl
  have hD : va_D A (wdFi_putInOrder q_this q_taken q_takers q_keys q_shades q_shades_tint q_shades_many q_palette q_palette_levels r_missed r_shades_rank r_shades_keys c_taken c_takers c_keys c_shades_tint c_shades_many c_palette_levels n_taken n_takers n_keys n_shades_tint n_shades_many n_palette_levels f_rounds f_taken f_takers_23 f_keys f_shades_size f_shades_stale f_shades_tint f_shades_many f_palette_size f_palette_levels) := hD.sub [0, 1, 8, 2, 3, 4, 5, 6, 7] (by decide) rfl
  refine lv_iconst (v := 0) hx hb dFi_putInOrder_8 (by decide) ?_
  refine lv_istore_n (lv' := [(3, .int 0), (0, .ref q_this), (1, .ref q_shades), (2, .ref q_palette)]) hx hb dFi_putInOrder_9 rfl hl (by decide) rfl (fun ls hl => ?_)
  rw [eK10, eG] at hv
  exact hv _ _ _ hP hD hS (lv_sub hl [1, 2, 3, 0] rfl)
