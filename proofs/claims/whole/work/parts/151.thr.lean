set_option maxRecDepth 20000 in
theorem hx_IndexOutOfBoundsException_149_w : ∀ w ∈ Bundle.ownAtoms RCL 149 "java/lang/IndexOutOfBoundsException" ["java/lang/RuntimeException", "java/lang/Exception"], w ∈ BIG ∨ w ∈ zNw ∨ w ∈ xt_four := by decide +kernel
theorem hx_IndexOutOfBoundsException_149 {args : Array Value} {s : State} {A : Nat → Prop} (hB : ∀ w ∈ BIG, w.before args s = true) (hZ : zG A s) : ∀ w ∈ Bundle.ownAtoms RCL 149 "java/lang/IndexOutOfBoundsException" ["java/lang/RuntimeException", "java/lang/Exception"], w.before args s = true := xt_words hx_IndexOutOfBoundsException_149_w hB hZ
set_option maxRecDepth 20000 in
theorem hx_IllegalArgumentException_101_w : ∀ w ∈ Bundle.ownAtoms RCL 101 "java/lang/IllegalArgumentException" ["java/lang/RuntimeException", "java/lang/Exception"], w ∈ BIG ∨ w ∈ zNw ∨ w ∈ xt_four := by decide +kernel
theorem hx_IllegalArgumentException_101 {args : Array Value} {s : State} {A : Nat → Prop} (hB : ∀ w ∈ BIG, w.before args s = true) (hZ : zG A s) : ∀ w ∈ Bundle.ownAtoms RCL 101 "java/lang/IllegalArgumentException" ["java/lang/RuntimeException", "java/lang/Exception"], w.before args s = true := xt_words hx_IllegalArgumentException_101_w hB hZ
set_option maxRecDepth 20000 in
theorem hx_IllegalStateException_209_w : ∀ w ∈ Bundle.ownAtoms RCL 209 "java/lang/IllegalStateException" ["java/lang/RuntimeException", "java/lang/Exception"], w ∈ BIG ∨ w ∈ zNw ∨ w ∈ xt_four := by decide +kernel
theorem hx_IllegalStateException_209 {args : Array Value} {s : State} {A : Nat → Prop} (hB : ∀ w ∈ BIG, w.before args s = true) (hZ : zG A s) : ∀ w ∈ Bundle.ownAtoms RCL 209 "java/lang/IllegalStateException" ["java/lang/RuntimeException", "java/lang/Exception"], w.before args s = true := xt_words hx_IllegalStateException_209_w hB hZ
set_option maxHeartbeats 4000000 in
set_option maxRecDepth 100000 in
theorem mtxCL_checkPlace (l : Launch) (hl9 : l.stackTraces = false) (dC : Nat → ClassId) (dI : Nat → Nat → Nat) (q_this r_samples r_held r_shades r_boxes r_pools r_offer r_palette r_fitting r_carry : Nat) (sz : Nat) (f_width : Int32) (f_height : Int32) (x1 : Int32) (x2 : Int32) {E : String} (hw : wxCL_checkPlace f_width f_height x1 x2 E) : xt_Met l yCL_checkPlace (.code yCL_checkPlace bCL_checkPlace 3 none :: BIG) ({ frames := 6, cells := 1, slots := 6, locals := 100 }) (va_Pc [.ref q_this, .int x1, .int x2] (gx_rpre (dC, dI) vwCl (wdCL_checkPlace q_this r_samples r_held r_shades r_boxes r_pools r_offer r_palette r_fitting r_carry f_width f_height) [] sz)) E := by
  refine xt_ofW (cc := bCL_checkPlace) (maxL := 3) (ret := none) (by decide) rfl ?_
  intro p e s m args below meth c s₁ B hml hnoex hv
  obtain ⟨rfl, hsz, hP, hK, hZ⟩ := hv
  have hx := B.exec
  have hb := B.bytes
  have hts := atoms_spec (ws := (.code yCL_checkPlace bCL_checkPlace 3 none :: BIG)) B.pre
  have hB : ∀ w ∈ BIG, w.before _ s = true := fun w h => hts w (List.mem_cons_of_mem _ h)
  have hown : s.vm.findClass RCL = some m.cls := findClass_of_methodNamed B.named
  have hlocks := B.notSynchronized
  subst hsz
  have hA : ∀ q : Nat, s.heap.size ≤ q → (fun q : Nat => s.heap.size ≤ q) q := fun _ h => h
  have hS : va_S (fun q : Nat => s.heap.size ≤ q) s.heap s.heap [] := va_S.rf
  have hl := lv_entry ([.ref q_this, .int x1, .int x2]) (n := 3) (Nat.le_of_ble_eq_true rfl)
  rw [lg_entry_eq]
  generalize (lg_sl ([.ref q_this, .int x1, .int x2]) ++ List.replicate (3 - (lg_sl ([.ref q_this, .int x1, .int x2])).length) Slot.unset).toArray = ls at hl ⊢
  have hl : lv_has ls 3 [(0, .ref q_this), (1, .int x1), (2, .int x2)] := hl
  have hL13 := (hB _ bw203)
  have hL17 := (hB _ bw204)
  refine gx_abs (fun G eG => ?_)
  have j24 : xcCL_checkPlace_24 f_width f_height x1 x2 E → ∀ (H : Heap) (locs : List Loc) (ls : Array Slot), va_P (dC, dI) vwCl (wdCL_checkPlace q_this r_samples r_held r_shades r_boxes r_pools r_offer r_palette r_fitting r_carry f_width f_height) H → va_S (fun q : Nat => s.heap.size ≤ q) s.heap H locs → lv_has ls 3 [] → G H locs 0 0 (F0 m 24 ls []) := by
    intro  hv H locs ls hP hS hl
    rw [eG]
    unfold xcCL_checkPlace_24 at hv
    subst hv
    obtain ⟨sa_1, hsa_1⟩ := hZ.2.1 (RCL, 203, "no such place of the picture") (List.mem_of_getElem? (i := 0) rfl)
    exact xt_throw hx hb hl9 hown (hB _ bw280) (hB _ bw57) hsa_1 (hx_IndexOutOfBoundsException_149 hB hZ) hS (hl.1.trans hml.symm) dCL_checkPlace_24 dCL_checkPlace_27 dCL_checkPlace_28 dCL_checkPlace_30 dCL_checkPlace_33 hnoex (by decide +kernel) (Nat.le_of_ble_eq_true rfl) (Nat.le_of_ble_eq_true rfl) (Nat.le_of_ble_eq_true rfl) (Nat.le_of_ble_eq_true rfl) (Nat.le_of_ble_eq_true rfl) (Nat.le_of_ble_eq_true rfl) hlocks
  rw [eG] at j24
  unfold wxCL_checkPlace at hw
  have hv := hw
  rw [eG]
  refine lv_iload_n hx hb dCL_checkPlace_0 rfl (lv_at hl 1 rfl) ?_
  refine lv_if_lt (tgt := 24) hx hb dCL_checkPlace_1 (by decide) (fun c_2 => ?_) (fun c_2 => ?_)
  · have hv := hv.1 c_2
    exact j24  hv _ _ _ hP hS (lv_sub hl [] rfl)
  · have hv := hv.2 c_2
    refine lv_iload_n hx hb dCL_checkPlace_4 rfl (lv_at hl 1 rfl) ?_
    refine lv_aload_n hx hb dCL_checkPlace_5 rfl (lv_at hl 0 rfl) ?_
    refine va_get (D := (dC, dI)) (ci := 7) (v := .int f_width) (C := RCL) (T := TCL) (N := 11) hx hb hB hiCL hown hK hP 0 rfl rfl 0 (by decide) hL13 (fun _ h9 => h9) rfl dCL_checkPlace_6 ?_
    refine lv_icmp_ge (tgt := 24) hx hb dCL_checkPlace_9 (by decide) (fun c_3 => ?_) (fun c_3 => ?_)
    · have hv := hv.1 c_3
      exact j24  hv _ _ _ hP hS (lv_sub hl [] rfl)
    · have hv := hv.2 c_3
      refine lv_iload_n hx hb dCL_checkPlace_12 rfl (lv_at hl 2 rfl) ?_
      refine lv_if_lt (tgt := 24) hx hb dCL_checkPlace_13 (by decide) (fun c_4 => ?_) (fun c_4 => ?_)
      · have hv := hv.1 c_4
        exact j24  hv _ _ _ hP hS (lv_sub hl [] rfl)
      · have hv := hv.2 c_4
        refine lv_iload_n hx hb dCL_checkPlace_16 rfl (lv_at hl 2 rfl) ?_
        refine lv_aload_n hx hb dCL_checkPlace_17 rfl (lv_at hl 0 rfl) ?_
        refine va_get (D := (dC, dI)) (ci := 7) (v := .int f_height) (C := RCL) (T := TCL) (N := 11) hx hb hB hiCL hown hK hP 0 rfl rfl 1 (by decide) hL17 (fun _ h9 => h9) rfl dCL_checkPlace_18 ?_
        refine lv_icmp_lt (tgt := 34) hx hb dCL_checkPlace_21 (by decide) (fun c_5 => ?_) (fun c_5 => ?_)
        · have hv := hv.1 c_5
          exact hv.elim
        · have hv := hv.2 c_5
          exact j24  hv _ _ _ hP hS (lv_sub hl [] rfl)
set_option maxHeartbeats 4000000 in
set_option maxRecDepth 100000 in
theorem mtxCL_checkLevels (l : Launch) (hl9 : l.stackTraces = false) (dC : Nat → ClassId) (dI : Nat → Nat → Nat) (sz : Nat) (x0 : Int32) (x1 : Int32) (x2 : Int32) (x3 : Int32) {E : String} (hw : wxCL_checkLevels x0 x1 x2 x3 E) : xt_Met l yCL_checkLevels (.code yCL_checkLevels bCL_checkLevels 4 none :: BIG) ({ frames := 6, cells := 1, slots := 6, locals := 100 }) (va_Pc [.int x0, .int x1, .int x2, .int x3] (gx_rpre (dC, dI) vwCl wdCL_checkLevels [] sz)) E := by
  refine xt_ofW (cc := bCL_checkLevels) (maxL := 4) (ret := none) (by decide) rfl ?_
  intro p e s m args below meth c s₁ B hml hnoex hv
  obtain ⟨rfl, hsz, hP, hK, hZ⟩ := hv
  have hx := B.exec
  have hb := B.bytes
  have hts := atoms_spec (ws := (.code yCL_checkLevels bCL_checkLevels 4 none :: BIG)) B.pre
  have hB : ∀ w ∈ BIG, w.before _ s = true := fun w h => hts w (List.mem_cons_of_mem _ h)
  have hown : s.vm.findClass RCL = some m.cls := findClass_of_methodNamed B.named
  have hlocks := B.notSynchronized
  subst hsz
  have hA : ∀ q : Nat, s.heap.size ≤ q → (fun q : Nat => s.heap.size ≤ q) q := fun _ h => h
  have hS : va_S (fun q : Nat => s.heap.size ≤ q) s.heap s.heap [] := va_S.rf
  have hl := lv_entry ([.int x0, .int x1, .int x2, .int x3]) (n := 4) (Nat.le_of_ble_eq_true rfl)
  rw [lg_entry_eq]
  generalize (lg_sl ([.int x0, .int x1, .int x2, .int x3]) ++ List.replicate (4 - (lg_sl ([.int x0, .int x1, .int x2, .int x3])).length) Slot.unset).toArray = ls at hl ⊢
  have hl : lv_has ls 4 [(0, .int x0), (1, .int x1), (2, .int x2), (3, .int x3)] := hl
  refine gx_abs (fun G eG => ?_)
  have j28 : xcCL_checkLevels_28 x0 x1 x2 x3 E → ∀ (H : Heap) (locs : List Loc) (ls : Array Slot), va_P (dC, dI) vwCl wdCL_checkLevels H → va_S (fun q : Nat => s.heap.size ≤ q) s.heap H locs → lv_has ls 4 [] → G H locs 0 0 (F0 m 28 ls []) := by
    intro  hv H locs ls hP hS hl
    rw [eG]
    unfold xcCL_checkLevels_28 at hv
    subst hv
    obtain ⟨sa_1, hsa_1⟩ := hZ.2.1 (RCL, 216, "a channel is not 0 .. 255") (List.mem_of_getElem? (i := 1) rfl)
    exact xt_throw hx hb hl9 hown (hB _ bw333) (hB _ bw58) hsa_1 (hx_IllegalArgumentException_101 hB hZ) hS (hl.1.trans hml.symm) dCL_checkLevels_28 dCL_checkLevels_31 dCL_checkLevels_32 dCL_checkLevels_34 dCL_checkLevels_37 hnoex (by decide +kernel) (Nat.le_of_ble_eq_true rfl) (Nat.le_of_ble_eq_true rfl) (Nat.le_of_ble_eq_true rfl) (Nat.le_of_ble_eq_true rfl) (Nat.le_of_ble_eq_true rfl) (Nat.le_of_ble_eq_true rfl) hlocks
  rw [eG] at j28
  unfold wxCL_checkLevels at hw
  have hv := hw
  rw [eG]
  refine lv_iload_n hx hb dCL_checkLevels_0 rfl (lv_at hl 0 rfl) ?_
  refine gx_ri (va_runS (As := [.int x0]) (rest := []) ⟨hx, hb, hml, hown, hB⟩ (metCL_isLevel l dC dI s.heap.size x0 hv) (va_cwS 1 hB (gx_gS bw330 bw331 bw44 bw332) rfl rfl rfl (by decide +kernel) ⟨(Nat.le_of_ble_eq_true rfl), (Nat.le_of_ble_eq_true rfl)⟩) (gx_rpreS (hP.sub (ws' := wdCL_isLevel) [] rfl) (hK.sub (tys' := []) [] rfl) hZ hS hA) rfl rfl hl.1 rfl (lv_room (Nat.le_of_ble_eq_true rfl)) dCL_checkLevels_1 ⟨(Nat.le_of_ble_eq_true rfl), (Nat.le_of_ble_eq_true rfl)⟩) hP hS hA (fun r_2 H locs hv hP hS => ?_)
  refine lv_if_eq (tgt := 28) hx hb dCL_checkLevels_4 (by decide) (fun c_4 => ?_) (fun c_4 => ?_)
  · have hv := hv.1 c_4
    exact j28  hv _ _ _ hP hS (lv_sub hl [] rfl)
  · have hv := hv.2 c_4
    refine lv_iload_n hx hb dCL_checkLevels_7 rfl (lv_at hl 1 rfl) ?_
    refine gx_ri (va_runS (As := [.int x1]) (rest := []) ⟨hx, hb, hml, hown, hB⟩ (metCL_isLevel l dC dI H.size x1 hv) (va_cwS 1 hB (gx_gS bw330 bw331 bw44 bw332) rfl rfl rfl (by decide +kernel) ⟨(Nat.le_of_ble_eq_true rfl), (Nat.le_of_ble_eq_true rfl)⟩) (gx_rpreS (hP.sub (ws' := wdCL_isLevel) [] rfl) (hK.sub (tys' := []) [] rfl) hZ hS hA) rfl rfl hl.1 rfl (lv_room (Nat.le_of_ble_eq_true rfl)) dCL_checkLevels_8 ⟨(Nat.le_of_ble_eq_true rfl), (Nat.le_of_ble_eq_true rfl)⟩) hP hS hA (fun r_5 H locs hv hP hS => ?_)
    refine lv_if_eq (tgt := 28) hx hb dCL_checkLevels_11 (by decide) (fun c_7 => ?_) (fun c_7 => ?_)
    · have hv := hv.1 c_7
      exact j28  hv _ _ _ hP hS (lv_sub hl [] rfl)
    · have hv := hv.2 c_7
      refine lv_iload_n hx hb dCL_checkLevels_14 rfl (lv_at hl 2 rfl) ?_
      refine gx_ri (va_runS (As := [.int x2]) (rest := []) ⟨hx, hb, hml, hown, hB⟩ (metCL_isLevel l dC dI H.size x2 hv) (va_cwS 1 hB (gx_gS bw330 bw331 bw44 bw332) rfl rfl rfl (by decide +kernel) ⟨(Nat.le_of_ble_eq_true rfl), (Nat.le_of_ble_eq_true rfl)⟩) (gx_rpreS (hP.sub (ws' := wdCL_isLevel) [] rfl) (hK.sub (tys' := []) [] rfl) hZ hS hA) rfl rfl hl.1 rfl (lv_room (Nat.le_of_ble_eq_true rfl)) dCL_checkLevels_15 ⟨(Nat.le_of_ble_eq_true rfl), (Nat.le_of_ble_eq_true rfl)⟩) hP hS hA (fun r_8 H locs hv hP hS => ?_)
      refine lv_if_eq (tgt := 28) hx hb dCL_checkLevels_18 (by decide) (fun c_10 => ?_) (fun c_10 => ?_)
      · have hv := hv.1 c_10
        exact j28  hv _ _ _ hP hS (lv_sub hl [] rfl)
      · have hv := hv.2 c_10
        refine lv_iload_n hx hb dCL_checkLevels_21 rfl (lv_at hl 3 rfl) ?_
        refine gx_ri (va_runS (As := [.int x3]) (rest := []) ⟨hx, hb, hml, hown, hB⟩ (metCL_isLevel l dC dI H.size x3 hv) (va_cwS 1 hB (gx_gS bw330 bw331 bw44 bw332) rfl rfl rfl (by decide +kernel) ⟨(Nat.le_of_ble_eq_true rfl), (Nat.le_of_ble_eq_true rfl)⟩) (gx_rpreS (hP.sub (ws' := wdCL_isLevel) [] rfl) (hK.sub (tys' := []) [] rfl) hZ hS hA) rfl rfl hl.1 rfl (lv_room (Nat.le_of_ble_eq_true rfl)) dCL_checkLevels_22 ⟨(Nat.le_of_ble_eq_true rfl), (Nat.le_of_ble_eq_true rfl)⟩) hP hS hA (fun r_11 H locs hv hP hS => ?_)
        refine lv_if_ne (tgt := 38) hx hb dCL_checkLevels_25 (by decide) (fun c_13 => ?_) (fun c_13 => ?_)
        · have hv := hv.1 c_13
          exact hv.elim
        · have hv := hv.2 c_13
          exact j28  hv _ _ _ hP hS (lv_sub hl [] rfl)
set_option maxHeartbeats 4000000 in
set_option maxRecDepth 100000 in
theorem mtxCL_put (l : Launch) (hl9 : l.stackTraces = false) (dC : Nat → ClassId) (dI : Nat → Nat → Nat) (q_this q_samples q_shades q_palette r_held r_boxes r_pools r_offer r_fitting r_carry r_shades_tint r_shades_many r_shades_rank r_shades_keys r_palette_levels : Nat) (c_samples : ClassId) (n_samples : Nat) (sz : Nat) (f_width : Int32) (f_height : Int32) (f_samples : Nat → Int32) (f_shades_size : Int32) (f_shades_stale : Int32) (f_palette_size : Int32) (x1 : Int32) (x2 : Int32) (x3 : Int32) (x4 : Int32) (x5 : Int32) (x6 : Int32) {E : String} (hw : wxCL_put n_samples f_width f_height f_samples f_shades_size f_shades_stale f_palette_size x1 x2 x3 x4 x5 x6 E) : xt_Met l yCL_put (.code yCL_put bCL_put 10 (some .boolean) :: BIG) ({ frames := 7, cells := 1, slots := 6, locals := 123 }) (va_Pc [.ref q_this, .int x1, .int x2, .int x3, .int x4, .int x5, .int x6] (gx_rpre (dC, dI) vwCl (wdCL_put q_this q_samples q_shades q_palette r_held r_boxes r_pools r_offer r_fitting r_carry r_shades_tint r_shades_many r_shades_rank r_shades_keys r_palette_levels c_samples n_samples f_width f_height f_samples f_shades_size f_shades_stale f_palette_size) [(c_samples, .int)] sz)) E := by
  refine xt_ofW (cc := bCL_put) (maxL := 10) (ret := (some .boolean)) (by decide) rfl ?_
  intro p e s m args below meth c s₁ B hml hnoex hv
  obtain ⟨rfl, hsz, hP, hK, hZ⟩ := hv
  have hx := B.exec
  have hb := B.bytes
  have hts := atoms_spec (ws := (.code yCL_put bCL_put 10 (some .boolean) :: BIG)) B.pre
  have hB : ∀ w ∈ BIG, w.before _ s = true := fun w h => hts w (List.mem_cons_of_mem _ h)
  have hown : s.vm.findClass RCL = some m.cls := findClass_of_methodNamed B.named
  have hlocks := B.notSynchronized
  subst hsz
  have hA : ∀ q : Nat, s.heap.size ≤ q → (fun q : Nat => s.heap.size ≤ q) q := fun _ h => h
  have hS : va_S (fun q : Nat => s.heap.size ≤ q) s.heap s.heap [] := va_S.rf
  have hl := lv_entry ([.ref q_this, .int x1, .int x2, .int x3, .int x4, .int x5, .int x6]) (n := 10) (Nat.le_of_ble_eq_true rfl)
  rw [lg_entry_eq]
  generalize (lg_sl ([.ref q_this, .int x1, .int x2, .int x3, .int x4, .int x5, .int x6]) ++ List.replicate (10 - (lg_sl ([.ref q_this, .int x1, .int x2, .int x3, .int x4, .int x5, .int x6])).length) Slot.unset).toArray = ls at hl ⊢
  have hl : lv_has ls 10 [(0, .ref q_this), (1, .int x1), (2, .int x2), (3, .int x3), (4, .int x4), (5, .int x5), (6, .int x6)] := hl
  unfold wxCL_put at hw
  have hv := hw
  refine lv_aload_n hx hb dCL_put_0 rfl (lv_at hl 0 rfl) ?_
  refine lv_iload_n hx hb dCL_put_1 rfl (lv_at hl 1 rfl) ?_
  refine lv_iload_n hx hb dCL_put_2 rfl (lv_at hl 2 rfl) ?_
  rcases hv with hv | hv
  rotate_left
  · refine xt_V (As := [.int x1, .int x2]) (rest := []) ⟨hx, hb, hml, hown, hB⟩ (mtxCL_checkPlace l hl9 dC dI q_this q_samples r_held q_shades r_boxes r_pools r_offer q_palette r_fitting r_carry s.heap.size f_width f_height x1 x2 hv) (cwV 2 hB (gx_gV bw277 bw278 bw2 bw44 bw279) rfl rfl rfl (by decide +kernel) ⟨(Nat.le_of_ble_eq_true rfl), (Nat.le_of_ble_eq_true rfl)⟩) (gx_rpreV (ci := 7) (hP.sub (ws' := (wdCL_checkPlace q_this q_samples r_held q_shades r_boxes r_pools r_offer q_palette r_fitting r_carry f_width f_height)) [0] rfl) (hK.sub (tys' := []) [] rfl) hZ hS hA rfl rfl) rfl rfl hl.1 rfl (lv_room (Nat.le_of_ble_eq_true rfl)) dCL_put_3 ⟨(Nat.le_of_ble_eq_true rfl), (Nat.le_of_ble_eq_true rfl)⟩ (fun q9 ce H locs hz hk hce hcv hcl hlo => ?_)
    exact xt_out hnoex hlocks hce hcv hcl (xt_S hS hz hk hlo hA) (Nat.le_of_ble_eq_true rfl) (Nat.le_of_ble_eq_true rfl)
  refine gx_rv (va_runV (As := [.int x1, .int x2]) (rest := []) ⟨hx, hb, hml, hown, hB⟩ (metCL_checkPlace l dC dI q_this q_samples r_held q_shades r_boxes r_pools r_offer q_palette r_fitting r_carry s.heap.size f_width f_height x1 x2 hv) (cwV 2 hB (gx_gV bw277 bw278 bw2 bw44 bw279) rfl rfl rfl (by decide +kernel) ⟨(Nat.le_of_ble_eq_true rfl), (Nat.le_of_ble_eq_true rfl)⟩) (gx_rpreV (ci := 7) (hP.sub (ws' := (wdCL_checkPlace q_this q_samples r_held q_shades r_boxes r_pools r_offer q_palette r_fitting r_carry f_width f_height)) [0] rfl) (hK.sub (tys' := []) [] rfl) hZ hS hA rfl rfl) rfl rfl hl.1 rfl (lv_room (Nat.le_of_ble_eq_true rfl)) dCL_put_3 ⟨(Nat.le_of_ble_eq_true rfl), (Nat.le_of_ble_eq_true rfl)⟩) hP hS hA (fun H locs hv hP hS => ?_)
  refine lv_iload_n hx hb dCL_put_6 rfl (lv_at hl 3 rfl) ?_
  refine lv_iload hx hb dCL_put_7 (lv_at hl 4 rfl) ?_
  refine lv_iload hx hb dCL_put_9 (lv_at hl 5 rfl) ?_
  refine lv_iload hx hb dCL_put_11 (lv_at hl 6 rfl) ?_
  rcases hv with hv | hv
  rotate_left
  · refine xt_Sc (As := [.int x3, .int x4, .int x5, .int x6]) (rest := []) ⟨hx, hb, hml, hown, hB⟩ (mtxCL_checkLevels l hl9 dC dI H.size x3 x4 x5 x6 hv) (va_cwS 4 hB (gx_gS bw327 bw328 bw44 bw329) rfl rfl rfl (by decide +kernel) ⟨(Nat.le_of_ble_eq_true rfl), (Nat.le_of_ble_eq_true rfl)⟩) (gx_rpreS (hP.sub (ws' := wdCL_checkLevels) [] rfl) (hK.sub (tys' := []) [] rfl) hZ hS hA) rfl rfl hl.1 rfl (lv_room (Nat.le_of_ble_eq_true rfl)) dCL_put_13 ⟨(Nat.le_of_ble_eq_true rfl), (Nat.le_of_ble_eq_true rfl)⟩ (fun q9 ce H locs hz hk hce hcv hcl hlo => ?_)
    exact xt_out hnoex hlocks hce hcv hcl (xt_S hS hz hk hlo hA) (Nat.le_of_ble_eq_true rfl) (Nat.le_of_ble_eq_true rfl)
  refine gx_rv (va_runS (As := [.int x3, .int x4, .int x5, .int x6]) (rest := []) ⟨hx, hb, hml, hown, hB⟩ (metCL_checkLevels l dC dI H.size x3 x4 x5 x6 hv) (va_cwS 4 hB (gx_gS bw327 bw328 bw44 bw329) rfl rfl rfl (by decide +kernel) ⟨(Nat.le_of_ble_eq_true rfl), (Nat.le_of_ble_eq_true rfl)⟩) (gx_rpreS (hP.sub (ws' := wdCL_checkLevels) [] rfl) (hK.sub (tys' := []) [] rfl) hZ hS hA) rfl rfl hl.1 rfl (lv_room (Nat.le_of_ble_eq_true rfl)) dCL_put_13 ⟨(Nat.le_of_ble_eq_true rfl), (Nat.le_of_ble_eq_true rfl)⟩) hP hS hA (fun H locs hv hP hS => ?_)
  exact hv.elim
set_option maxHeartbeats 4000000 in
set_option maxRecDepth 100000 in
theorem mtxCL_paint (l : Launch) (hl9 : l.stackTraces = false) (dC : Nat → ClassId) (dI : Nat → Nat → Nat) (q_this q_samples q_shades q_palette r_held r_boxes r_pools r_offer r_fitting r_carry r_shades_tint r_shades_many r_shades_rank r_shades_keys r_palette_levels : Nat) (c_samples : ClassId) (n_samples : Nat) (sz : Nat) (f_width : Int32) (f_height : Int32) (f_samples : Nat → Int32) (f_shades_size : Int32) (f_shades_stale : Int32) (f_palette_size : Int32) (x1 : Int32) (x2 : Int32) (x3 : Int32) (x4 : Int32) (x5 : Int32) {E : String} (hw : wxCL_paint n_samples f_width f_height f_samples f_shades_size f_shades_stale f_palette_size x1 x2 x3 x4 x5 E) : xt_Met l yCL_paint (.code yCL_paint bCL_paint 10 (some .int) :: BIG) ({ frames := 7, cells := 1, slots := 6, locals := 122 }) (va_Pc [.ref q_this, .int x1, .int x2, .int x3, .int x4, .int x5] (gx_rpre (dC, dI) vwCl (wdCL_paint q_this q_samples q_shades q_palette r_held r_boxes r_pools r_offer r_fitting r_carry r_shades_tint r_shades_many r_shades_rank r_shades_keys r_palette_levels c_samples n_samples f_width f_height f_samples f_shades_size f_shades_stale f_palette_size) [(c_samples, .int)] sz)) E := by
  refine xt_ofW (cc := bCL_paint) (maxL := 10) (ret := (some .int)) (by decide) rfl ?_
  intro p e s m args below meth c s₁ B hml hnoex hv
  obtain ⟨rfl, hsz, hP, hK, hZ⟩ := hv
  have hx := B.exec
  have hb := B.bytes
  have hts := atoms_spec (ws := (.code yCL_paint bCL_paint 10 (some .int) :: BIG)) B.pre
  have hB : ∀ w ∈ BIG, w.before _ s = true := fun w h => hts w (List.mem_cons_of_mem _ h)
  have hown : s.vm.findClass RCL = some m.cls := findClass_of_methodNamed B.named
  have hlocks := B.notSynchronized
  subst hsz
  have hA : ∀ q : Nat, s.heap.size ≤ q → (fun q : Nat => s.heap.size ≤ q) q := fun _ h => h
  have hS : va_S (fun q : Nat => s.heap.size ≤ q) s.heap s.heap [] := va_S.rf
  have hl := lv_entry ([.ref q_this, .int x1, .int x2, .int x3, .int x4, .int x5]) (n := 10) (Nat.le_of_ble_eq_true rfl)
  rw [lg_entry_eq]
  generalize (lg_sl ([.ref q_this, .int x1, .int x2, .int x3, .int x4, .int x5]) ++ List.replicate (10 - (lg_sl ([.ref q_this, .int x1, .int x2, .int x3, .int x4, .int x5])).length) Slot.unset).toArray = ls at hl ⊢
  have hl : lv_has ls 10 [(0, .ref q_this), (1, .int x1), (2, .int x2), (3, .int x3), (4, .int x4), (5, .int x5)] := hl
  unfold wxCL_paint at hw
  have hv := hw
  refine lv_aload_n hx hb dCL_paint_0 rfl (lv_at hl 0 rfl) ?_
  refine lv_iload_n hx hb dCL_paint_1 rfl (lv_at hl 1 rfl) ?_
  refine lv_iload_n hx hb dCL_paint_2 rfl (lv_at hl 2 rfl) ?_
  rcases hv with hv | hv
  rotate_left
  · refine xt_V (As := [.int x1, .int x2]) (rest := []) ⟨hx, hb, hml, hown, hB⟩ (mtxCL_checkPlace l hl9 dC dI q_this q_samples r_held q_shades r_boxes r_pools r_offer q_palette r_fitting r_carry s.heap.size f_width f_height x1 x2 hv) (cwV 2 hB (gx_gV bw277 bw278 bw2 bw44 bw279) rfl rfl rfl (by decide +kernel) ⟨(Nat.le_of_ble_eq_true rfl), (Nat.le_of_ble_eq_true rfl)⟩) (gx_rpreV (ci := 7) (hP.sub (ws' := (wdCL_checkPlace q_this q_samples r_held q_shades r_boxes r_pools r_offer q_palette r_fitting r_carry f_width f_height)) [0] rfl) (hK.sub (tys' := []) [] rfl) hZ hS hA rfl rfl) rfl rfl hl.1 rfl (lv_room (Nat.le_of_ble_eq_true rfl)) dCL_paint_3 ⟨(Nat.le_of_ble_eq_true rfl), (Nat.le_of_ble_eq_true rfl)⟩ (fun q9 ce H locs hz hk hce hcv hcl hlo => ?_)
    exact xt_out hnoex hlocks hce hcv hcl (xt_S hS hz hk hlo hA) (Nat.le_of_ble_eq_true rfl) (Nat.le_of_ble_eq_true rfl)
  refine gx_rv (va_runV (As := [.int x1, .int x2]) (rest := []) ⟨hx, hb, hml, hown, hB⟩ (metCL_checkPlace l dC dI q_this q_samples r_held q_shades r_boxes r_pools r_offer q_palette r_fitting r_carry s.heap.size f_width f_height x1 x2 hv) (cwV 2 hB (gx_gV bw277 bw278 bw2 bw44 bw279) rfl rfl rfl (by decide +kernel) ⟨(Nat.le_of_ble_eq_true rfl), (Nat.le_of_ble_eq_true rfl)⟩) (gx_rpreV (ci := 7) (hP.sub (ws' := (wdCL_checkPlace q_this q_samples r_held q_shades r_boxes r_pools r_offer q_palette r_fitting r_carry f_width f_height)) [0] rfl) (hK.sub (tys' := []) [] rfl) hZ hS hA rfl rfl) rfl rfl hl.1 rfl (lv_room (Nat.le_of_ble_eq_true rfl)) dCL_paint_3 ⟨(Nat.le_of_ble_eq_true rfl), (Nat.le_of_ble_eq_true rfl)⟩) hP hS hA (fun H locs hv hP hS => ?_)
  refine lv_iload_n hx hb dCL_paint_6 rfl (lv_at hl 3 rfl) ?_
  refine lv_if_ge (tgt := 20) hx hb dCL_paint_7 (by decide) (fun c_2 => ?_) (fun c_2 => ?_)
  · have hv := hv.1 c_2
    exact hv.elim
  · have hv := hv.2 c_2
    subst hv
    obtain ⟨sa_3, hsa_3⟩ := hZ.2.1 (RCL, 99, "a number of samples below 0") (List.mem_of_getElem? (i := 2) rfl)
    exact xt_throw hx hb hl9 hown (hB _ bw333) (hB _ bw58) hsa_3 (hx_IllegalArgumentException_101 hB hZ) hS (hl.1.trans hml.symm) dCL_paint_10 dCL_paint_13 dCL_paint_14 dCL_paint_16 dCL_paint_19 hnoex (by decide +kernel) (Nat.le_of_ble_eq_true rfl) (Nat.le_of_ble_eq_true rfl) (Nat.le_of_ble_eq_true rfl) (Nat.le_of_ble_eq_true rfl) (Nat.le_of_ble_eq_true rfl) (Nat.le_of_ble_eq_true rfl) hlocks
set_option maxHeartbeats 4000000 in
set_option maxRecDepth 100000 in
theorem mtxCL_at (l : Launch) (hl9 : l.stackTraces = false) (dC : Nat → ClassId) (dI : Nat → Nat → Nat) (q_this q_samples r_held r_shades r_boxes r_pools r_offer r_palette r_fitting r_carry : Nat) (c_samples : ClassId) (n_samples : Nat) (sz : Nat) (f_width : Int32) (f_height : Int32) (f_samples : Nat → Int32) (x1 : Int32) (x2 : Int32) {E : String} (hw : wxCL_at n_samples f_width f_height f_samples x1 x2 E) : xt_Met l yCL_at (.code yCL_at bCL_at 3 (some .int) :: BIG) ({ frames := 7, cells := 1, slots := 6, locals := 122 }) (va_Pc [.ref q_this, .int x1, .int x2] (gx_rpre (dC, dI) vwCl (wdCL_at q_this q_samples r_held r_shades r_boxes r_pools r_offer r_palette r_fitting r_carry c_samples n_samples f_width f_height f_samples) [(c_samples, .int)] sz)) E := by
  refine xt_ofW (cc := bCL_at) (maxL := 3) (ret := (some .int)) (by decide) rfl ?_
  intro p e s m args below meth c s₁ B hml hnoex hv
  obtain ⟨rfl, hsz, hP, hK, hZ⟩ := hv
  have hx := B.exec
  have hb := B.bytes
  have hts := atoms_spec (ws := (.code yCL_at bCL_at 3 (some .int) :: BIG)) B.pre
  have hB : ∀ w ∈ BIG, w.before _ s = true := fun w h => hts w (List.mem_cons_of_mem _ h)
  have hown : s.vm.findClass RCL = some m.cls := findClass_of_methodNamed B.named
  have hlocks := B.notSynchronized
  subst hsz
  have hA : ∀ q : Nat, s.heap.size ≤ q → (fun q : Nat => s.heap.size ≤ q) q := fun _ h => h
  have hS : va_S (fun q : Nat => s.heap.size ≤ q) s.heap s.heap [] := va_S.rf
  have hl := lv_entry ([.ref q_this, .int x1, .int x2]) (n := 3) (Nat.le_of_ble_eq_true rfl)
  rw [lg_entry_eq]
  generalize (lg_sl ([.ref q_this, .int x1, .int x2]) ++ List.replicate (3 - (lg_sl ([.ref q_this, .int x1, .int x2])).length) Slot.unset).toArray = ls at hl ⊢
  have hl : lv_has ls 3 [(0, .ref q_this), (1, .int x1), (2, .int x2)] := hl
  unfold wxCL_at at hw
  have hv := hw
  refine lv_aload_n hx hb dCL_at_0 rfl (lv_at hl 0 rfl) ?_
  refine lv_iload_n hx hb dCL_at_1 rfl (lv_at hl 1 rfl) ?_
  refine lv_iload_n hx hb dCL_at_2 rfl (lv_at hl 2 rfl) ?_
  rcases hv with hv | hv
  rotate_left
  · refine xt_V (As := [.int x1, .int x2]) (rest := []) ⟨hx, hb, hml, hown, hB⟩ (mtxCL_checkPlace l hl9 dC dI q_this q_samples r_held r_shades r_boxes r_pools r_offer r_palette r_fitting r_carry s.heap.size f_width f_height x1 x2 hv) (cwV 2 hB (gx_gV bw277 bw278 bw2 bw44 bw279) rfl rfl rfl (by decide +kernel) ⟨(Nat.le_of_ble_eq_true rfl), (Nat.le_of_ble_eq_true rfl)⟩) (gx_rpreV (ci := 7) (hP.sub (ws' := (wdCL_checkPlace q_this q_samples r_held r_shades r_boxes r_pools r_offer r_palette r_fitting r_carry f_width f_height)) [0] rfl) (hK.sub (tys' := []) [] rfl) hZ hS hA rfl rfl) rfl rfl hl.1 rfl (lv_room (Nat.le_of_ble_eq_true rfl)) dCL_at_3 ⟨(Nat.le_of_ble_eq_true rfl), (Nat.le_of_ble_eq_true rfl)⟩ (fun q9 ce H locs hz hk hce hcv hcl hlo => ?_)
    exact xt_out hnoex hlocks hce hcv hcl (xt_S hS hz hk hlo hA) (Nat.le_of_ble_eq_true rfl) (Nat.le_of_ble_eq_true rfl)
  refine gx_rv (va_runV (As := [.int x1, .int x2]) (rest := []) ⟨hx, hb, hml, hown, hB⟩ (metCL_checkPlace l dC dI q_this q_samples r_held r_shades r_boxes r_pools r_offer r_palette r_fitting r_carry s.heap.size f_width f_height x1 x2 hv) (cwV 2 hB (gx_gV bw277 bw278 bw2 bw44 bw279) rfl rfl rfl (by decide +kernel) ⟨(Nat.le_of_ble_eq_true rfl), (Nat.le_of_ble_eq_true rfl)⟩) (gx_rpreV (ci := 7) (hP.sub (ws' := (wdCL_checkPlace q_this q_samples r_held r_shades r_boxes r_pools r_offer r_palette r_fitting r_carry f_width f_height)) [0] rfl) (hK.sub (tys' := []) [] rfl) hZ hS hA rfl rfl) rfl rfl hl.1 rfl (lv_room (Nat.le_of_ble_eq_true rfl)) dCL_at_3 ⟨(Nat.le_of_ble_eq_true rfl), (Nat.le_of_ble_eq_true rfl)⟩) hP hS hA (fun H locs hv hP hS => ?_)
  exact hv.elim
set_option maxHeartbeats 4000000 in
set_option maxRecDepth 100000 in
theorem mtxCL_run (l : Launch) (hl9 : l.stackTraces = false) (dC : Nat → ClassId) (dI : Nat → Nat → Nat) (q_this q_samples q_held q_shades q_shades_tint q_shades_many q_shades_rank q_shades_keys q_boxes q_boxes_row q_boxes_start q_boxes_end q_boxes_weight q_boxes_spread q_boxes_widest q_pools q_pools_totals q_pools_many q_pools_means q_offer q_offer_tint q_offer_there q_palette q_palette_levels q_fitting q_fitting_taken q_fitting_missed q_fitting_takers q_fitting_keys r_carry : Nat) (c_samples c_held c_shades_tint c_shades_many c_shades_rank c_shades_keys c_boxes_row c_boxes_start c_boxes_end c_boxes_weight c_boxes_spread c_boxes_widest c_pools_totals c_pools_many c_pools_means c_offer_tint c_offer_there c_palette_levels c_fitting_taken c_fitting_missed c_fitting_takers c_fitting_keys : ClassId) (n_samples n_held n_shades_tint n_shades_many n_shades_rank n_shades_keys n_boxes_row n_boxes_start n_boxes_end n_boxes_weight n_boxes_spread n_boxes_widest n_pools_totals n_pools_many n_pools_means n_offer_tint n_offer_there n_palette_levels n_fitting_taken n_fitting_missed n_fitting_takers n_fitting_keys : Nat) (sz : Nat) (f_width : Int32) (f_height : Int32) (f_samples : Nat → Int32) (f_held : Nat → Int32) (f_shades_size : Int32) (f_shades_stale : Int32) (f_shades_tint : Nat → Int32) (f_shades_many : Nat → Int32) (f_shades_rank : Nat → Int32) (f_shades_keys : Nat → Int64) (f_boxes_size : Int32) (f_boxes_row : Nat → Int32) (f_boxes_start : Nat → Int32) (f_boxes_end : Nat → Int32) (f_boxes_weight : Nat → Int32) (f_boxes_spread : Nat → Int32) (f_boxes_widest : Nat → Int32) (f_pools_size : Int32) (f_pools_totals : Nat → Int32) (f_pools_many : Nat → Int32) (f_pools_means : Nat → Int32) (f_offer_size : Int32) (f_offer_tint : Nat → Int32) (f_offer_there : Nat → Int32) (f_palette_size : Int32) (f_palette_levels : Nat → Int32) (f_fitting_rounds : Int32) (f_fitting_taken : Nat → Int32) (f_fitting_missed : Nat → Int64) (f_fitting_takers : Nat → Int32) (f_fitting_keys : Nat → Int64) (x1 : Int32) (x2 : Int32) (x3 : Int32) {E : String} (hw : wxCL_run n_samples n_held n_shades_tint n_shades_many n_shades_rank n_shades_keys n_boxes_row n_boxes_start n_boxes_end n_boxes_weight n_boxes_spread n_boxes_widest n_pools_totals n_pools_many n_pools_means n_offer_tint n_offer_there n_palette_levels n_fitting_taken n_fitting_missed n_fitting_takers n_fitting_keys f_width f_height f_samples f_held f_shades_size f_shades_stale f_shades_tint f_shades_many f_shades_rank f_shades_keys f_boxes_size f_boxes_row f_boxes_start f_boxes_end f_boxes_weight f_boxes_spread f_boxes_widest f_pools_size f_pools_totals f_pools_many f_pools_means f_offer_size f_offer_tint f_offer_there f_palette_size f_palette_levels f_fitting_rounds f_fitting_taken f_fitting_missed f_fitting_takers f_fitting_keys x1 x2 x3 E) : xt_Met l yCL_run (.code yCL_run bCL_run 4 (some .int) :: BIG) ({ frames := 6, cells := 1, slots := 6, locals := 147 }) (va_Pc [.ref q_this, .int x1, .int x2, .int x3] (gx_rpre (dC, dI) vwCl (wdCL_run q_this q_samples q_held q_shades q_shades_tint q_shades_many q_shades_rank q_shades_keys q_boxes q_boxes_row q_boxes_start q_boxes_end q_boxes_weight q_boxes_spread q_boxes_widest q_pools q_pools_totals q_pools_many q_pools_means q_offer q_offer_tint q_offer_there q_palette q_palette_levels q_fitting q_fitting_taken q_fitting_missed q_fitting_takers q_fitting_keys r_carry c_samples c_held c_shades_tint c_shades_many c_shades_rank c_shades_keys c_boxes_row c_boxes_start c_boxes_end c_boxes_weight c_boxes_spread c_boxes_widest c_pools_totals c_pools_many c_pools_means c_offer_tint c_offer_there c_palette_levels c_fitting_taken c_fitting_missed c_fitting_takers c_fitting_keys n_samples n_held n_shades_tint n_shades_many n_shades_rank n_shades_keys n_boxes_row n_boxes_start n_boxes_end n_boxes_weight n_boxes_spread n_boxes_widest n_pools_totals n_pools_many n_pools_means n_offer_tint n_offer_there n_palette_levels n_fitting_taken n_fitting_missed n_fitting_takers n_fitting_keys f_width f_height f_samples f_held f_shades_size f_shades_stale f_shades_tint f_shades_many f_shades_rank f_shades_keys f_boxes_size f_boxes_row f_boxes_start f_boxes_end f_boxes_weight f_boxes_spread f_boxes_widest f_pools_size f_pools_totals f_pools_many f_pools_means f_offer_size f_offer_tint f_offer_there f_palette_size f_palette_levels f_fitting_rounds f_fitting_taken f_fitting_missed f_fitting_takers f_fitting_keys) [(c_samples, .int), (c_held, .int), (c_shades_tint, .int), (c_shades_many, .int), (c_shades_rank, .int), (c_shades_keys, .long), (c_boxes_row, .int), (c_boxes_start, .int), (c_boxes_end, .int), (c_boxes_weight, .int), (c_boxes_spread, .int), (c_boxes_widest, .int), (c_pools_totals, .int), (c_pools_many, .int), (c_pools_means, .int), (c_offer_tint, .int), (c_offer_there, .boolean), (c_palette_levels, .int), (c_fitting_taken, .int), (c_fitting_missed, .long), (c_fitting_takers, .int), (c_fitting_keys, .long)] sz)) E := by
  refine xt_ofW (cc := bCL_run) (maxL := 4) (ret := (some .int)) (by decide) rfl ?_
  intro p e s m args below meth c s₁ B hml hnoex hv
  obtain ⟨rfl, hsz, hP, hK, hZ⟩ := hv
  have hx := B.exec
  have hb := B.bytes
  have hts := atoms_spec (ws := (.code yCL_run bCL_run 4 (some .int) :: BIG)) B.pre
  have hB : ∀ w ∈ BIG, w.before _ s = true := fun w h => hts w (List.mem_cons_of_mem _ h)
  have hown : s.vm.findClass RCL = some m.cls := findClass_of_methodNamed B.named
  have hlocks := B.notSynchronized
  subst hsz
  have hA : ∀ q : Nat, s.heap.size ≤ q → (fun q : Nat => s.heap.size ≤ q) q := fun _ h => h
  have hS : va_S (fun q : Nat => s.heap.size ≤ q) s.heap s.heap [] := va_S.rf
  have hl := lv_entry ([.ref q_this, .int x1, .int x2, .int x3]) (n := 4) (Nat.le_of_ble_eq_true rfl)
  rw [lg_entry_eq]
  generalize (lg_sl ([.ref q_this, .int x1, .int x2, .int x3]) ++ List.replicate (4 - (lg_sl ([.ref q_this, .int x1, .int x2, .int x3])).length) Slot.unset).toArray = ls at hl ⊢
  have hl : lv_has ls 4 [(0, .ref q_this), (1, .int x1), (2, .int x2), (3, .int x3)] := hl
  have hL53 := (hB _ bw210)
  have hL118 := (hB _ bw153)
  refine gx_abs (fun G eG => ?_)
  have j9 : xcCL_run_9 n_samples n_held n_shades_tint n_shades_many n_shades_rank n_shades_keys n_boxes_row n_boxes_start n_boxes_end n_boxes_weight n_boxes_spread n_boxes_widest n_pools_totals n_pools_many n_pools_means n_offer_tint n_offer_there n_palette_levels n_fitting_taken n_fitting_missed n_fitting_takers n_fitting_keys f_width f_height f_samples f_offer_size f_offer_tint f_offer_there x1 x2 x3 E f_held f_shades_size f_shades_stale f_shades_tint f_shades_many f_shades_rank f_shades_keys f_boxes_size f_boxes_row f_boxes_start f_boxes_end f_boxes_weight f_boxes_spread f_boxes_widest f_pools_size f_pools_totals f_pools_many f_pools_means f_palette_size f_palette_levels f_fitting_rounds f_fitting_taken f_fitting_missed f_fitting_takers f_fitting_keys → ∀ (H : Heap) (locs : List Loc) (ls : Array Slot), va_P (dC, dI) vwCl (wdCL_run q_this q_samples q_held q_shades q_shades_tint q_shades_many q_shades_rank q_shades_keys q_boxes q_boxes_row q_boxes_start q_boxes_end q_boxes_weight q_boxes_spread q_boxes_widest q_pools q_pools_totals q_pools_many q_pools_means q_offer q_offer_tint q_offer_there q_palette q_palette_levels q_fitting q_fitting_taken q_fitting_missed q_fitting_takers q_fitting_keys r_carry c_samples c_held c_shades_tint c_shades_many c_shades_rank c_shades_keys c_boxes_row c_boxes_start c_boxes_end c_boxes_weight c_boxes_spread c_boxes_widest c_pools_totals c_pools_many c_pools_means c_offer_tint c_offer_there c_palette_levels c_fitting_taken c_fitting_missed c_fitting_takers c_fitting_keys n_samples n_held n_shades_tint n_shades_many n_shades_rank n_shades_keys n_boxes_row n_boxes_start n_boxes_end n_boxes_weight n_boxes_spread n_boxes_widest n_pools_totals n_pools_many n_pools_means n_offer_tint n_offer_there n_palette_levels n_fitting_taken n_fitting_missed n_fitting_takers n_fitting_keys f_width f_height f_samples f_held f_shades_size f_shades_stale f_shades_tint f_shades_many f_shades_rank f_shades_keys f_boxes_size f_boxes_row f_boxes_start f_boxes_end f_boxes_weight f_boxes_spread f_boxes_widest f_pools_size f_pools_totals f_pools_many f_pools_means f_offer_size f_offer_tint f_offer_there f_palette_size f_palette_levels f_fitting_rounds f_fitting_taken f_fitting_missed f_fitting_takers f_fitting_keys) H → va_S (fun q : Nat => s.heap.size ≤ q) s.heap H locs → lv_has ls 4 [] → G H locs 0 0 (F0 m 9 ls []) := by
    intro  hv H locs ls hP hS hl
    rw [eG]
    unfold xcCL_run_9 at hv
    subst hv
    obtain ⟨sa_1, hsa_1⟩ := hZ.2.1 (RCL, 112, "no such way") (List.mem_of_getElem? (i := 3) rfl)
    exact xt_throw hx hb hl9 hown (hB _ bw333) (hB _ bw58) hsa_1 (hx_IllegalArgumentException_101 hB hZ) hS (hl.1.trans hml.symm) dCL_run_9 dCL_run_12 dCL_run_13 dCL_run_15 dCL_run_18 hnoex (by decide +kernel) (Nat.le_of_ble_eq_true rfl) (Nat.le_of_ble_eq_true rfl) (Nat.le_of_ble_eq_true rfl) (Nat.le_of_ble_eq_true rfl) (Nat.le_of_ble_eq_true rfl) (Nat.le_of_ble_eq_true rfl) hlocks
  rw [eG] at j9
  have j30 : xcCL_run_30 n_samples n_held n_shades_tint n_shades_many n_shades_rank n_shades_keys n_boxes_row n_boxes_start n_boxes_end n_boxes_weight n_boxes_spread n_boxes_widest n_pools_totals n_pools_many n_pools_means n_offer_tint n_offer_there n_palette_levels n_fitting_taken n_fitting_missed n_fitting_takers n_fitting_keys f_width f_height f_samples f_offer_size f_offer_tint f_offer_there x1 x2 x3 E f_held f_shades_size f_shades_stale f_shades_tint f_shades_many f_shades_rank f_shades_keys f_boxes_size f_boxes_row f_boxes_start f_boxes_end f_boxes_weight f_boxes_spread f_boxes_widest f_pools_size f_pools_totals f_pools_many f_pools_means f_palette_size f_palette_levels f_fitting_rounds f_fitting_taken f_fitting_missed f_fitting_takers f_fitting_keys → ∀ (H : Heap) (locs : List Loc) (ls : Array Slot), va_P (dC, dI) vwCl (wdCL_run q_this q_samples q_held q_shades q_shades_tint q_shades_many q_shades_rank q_shades_keys q_boxes q_boxes_row q_boxes_start q_boxes_end q_boxes_weight q_boxes_spread q_boxes_widest q_pools q_pools_totals q_pools_many q_pools_means q_offer q_offer_tint q_offer_there q_palette q_palette_levels q_fitting q_fitting_taken q_fitting_missed q_fitting_takers q_fitting_keys r_carry c_samples c_held c_shades_tint c_shades_many c_shades_rank c_shades_keys c_boxes_row c_boxes_start c_boxes_end c_boxes_weight c_boxes_spread c_boxes_widest c_pools_totals c_pools_many c_pools_means c_offer_tint c_offer_there c_palette_levels c_fitting_taken c_fitting_missed c_fitting_takers c_fitting_keys n_samples n_held n_shades_tint n_shades_many n_shades_rank n_shades_keys n_boxes_row n_boxes_start n_boxes_end n_boxes_weight n_boxes_spread n_boxes_widest n_pools_totals n_pools_many n_pools_means n_offer_tint n_offer_there n_palette_levels n_fitting_taken n_fitting_missed n_fitting_takers n_fitting_keys f_width f_height f_samples f_held f_shades_size f_shades_stale f_shades_tint f_shades_many f_shades_rank f_shades_keys f_boxes_size f_boxes_row f_boxes_start f_boxes_end f_boxes_weight f_boxes_spread f_boxes_widest f_pools_size f_pools_totals f_pools_many f_pools_means f_offer_size f_offer_tint f_offer_there f_palette_size f_palette_levels f_fitting_rounds f_fitting_taken f_fitting_missed f_fitting_takers f_fitting_keys) H → va_S (fun q : Nat => s.heap.size ≤ q) s.heap H locs → lv_has ls 4 [] → G H locs 0 0 (F0 m 30 ls []) := by
    intro  hv H locs ls hP hS hl
    rw [eG]
    unfold xcCL_run_30 at hv
    subst hv
    obtain ⟨sa_2, hsa_2⟩ := hZ.2.1 (RCL, 114, "colours are not 1 .. 64") (List.mem_of_getElem? (i := 4) rfl)
    exact xt_throw hx hb hl9 hown (hB _ bw333) (hB _ bw58) hsa_2 (hx_IllegalArgumentException_101 hB hZ) hS (hl.1.trans hml.symm) dCL_run_30 dCL_run_33 dCL_run_34 dCL_run_36 dCL_run_39 hnoex (by decide +kernel) (Nat.le_of_ble_eq_true rfl) (Nat.le_of_ble_eq_true rfl) (Nat.le_of_ble_eq_true rfl) (Nat.le_of_ble_eq_true rfl) (Nat.le_of_ble_eq_true rfl) (Nat.le_of_ble_eq_true rfl) hlocks
  rw [eG] at j30
  have j50 : xcCL_run_50 n_samples n_held n_shades_tint n_shades_many n_shades_rank n_shades_keys n_boxes_row n_boxes_start n_boxes_end n_boxes_weight n_boxes_spread n_boxes_widest n_pools_totals n_pools_many n_pools_means n_offer_tint n_offer_there n_palette_levels n_fitting_taken n_fitting_missed n_fitting_takers n_fitting_keys f_width f_height f_samples f_offer_size f_offer_tint f_offer_there x1 x2 x3 E f_held f_shades_size f_shades_stale f_shades_tint f_shades_many f_shades_rank f_shades_keys f_boxes_size f_boxes_row f_boxes_start f_boxes_end f_boxes_weight f_boxes_spread f_boxes_widest f_pools_size f_pools_totals f_pools_many f_pools_means f_palette_size f_palette_levels f_fitting_rounds f_fitting_taken f_fitting_missed f_fitting_takers f_fitting_keys → ∀ (H : Heap) (locs : List Loc) (ls : Array Slot), va_P (dC, dI) vwCl (wdCL_run q_this q_samples q_held q_shades q_shades_tint q_shades_many q_shades_rank q_shades_keys q_boxes q_boxes_row q_boxes_start q_boxes_end q_boxes_weight q_boxes_spread q_boxes_widest q_pools q_pools_totals q_pools_many q_pools_means q_offer q_offer_tint q_offer_there q_palette q_palette_levels q_fitting q_fitting_taken q_fitting_missed q_fitting_takers q_fitting_keys r_carry c_samples c_held c_shades_tint c_shades_many c_shades_rank c_shades_keys c_boxes_row c_boxes_start c_boxes_end c_boxes_weight c_boxes_spread c_boxes_widest c_pools_totals c_pools_many c_pools_means c_offer_tint c_offer_there c_palette_levels c_fitting_taken c_fitting_missed c_fitting_takers c_fitting_keys n_samples n_held n_shades_tint n_shades_many n_shades_rank n_shades_keys n_boxes_row n_boxes_start n_boxes_end n_boxes_weight n_boxes_spread n_boxes_widest n_pools_totals n_pools_many n_pools_means n_offer_tint n_offer_there n_palette_levels n_fitting_taken n_fitting_missed n_fitting_takers n_fitting_keys f_width f_height f_samples f_held f_shades_size f_shades_stale f_shades_tint f_shades_many f_shades_rank f_shades_keys f_boxes_size f_boxes_row f_boxes_start f_boxes_end f_boxes_weight f_boxes_spread f_boxes_widest f_pools_size f_pools_totals f_pools_many f_pools_means f_offer_size f_offer_tint f_offer_there f_palette_size f_palette_levels f_fitting_rounds f_fitting_taken f_fitting_missed f_fitting_takers f_fitting_keys) H → va_S (fun q : Nat => s.heap.size ≤ q) s.heap H locs → lv_has ls 4 [] → G H locs 0 0 (F0 m 50 ls []) := by
    intro  hv H locs ls hP hS hl
    rw [eG]
    unfold xcCL_run_50 at hv
    subst hv
    obtain ⟨sa_3, hsa_3⟩ := hZ.2.1 (RCL, 116, "rounds are not 0 .. 20") (List.mem_of_getElem? (i := 5) rfl)
    exact xt_throw hx hb hl9 hown (hB _ bw333) (hB _ bw58) hsa_3 (hx_IllegalArgumentException_101 hB hZ) hS (hl.1.trans hml.symm) dCL_run_50 dCL_run_53 dCL_run_54 dCL_run_56 dCL_run_59 hnoex (by decide +kernel) (Nat.le_of_ble_eq_true rfl) (Nat.le_of_ble_eq_true rfl) (Nat.le_of_ble_eq_true rfl) (Nat.le_of_ble_eq_true rfl) (Nat.le_of_ble_eq_true rfl) (Nat.le_of_ble_eq_true rfl) hlocks
  rw [eG] at j50
  unfold wxCL_run at hw
  have hv := hw
  rw [eG]
  refine lv_iload_n hx hb dCL_run_0 rfl (lv_at hl 1 rfl) ?_
  refine lv_if_lt (tgt := 9) hx hb dCL_run_1 (by decide) (fun c_4 => ?_) (fun c_4 => ?_)
  · have hv := hv.1 c_4
    exact j9  hv _ _ _ hP hS (lv_sub hl [] rfl)
  · have hv := hv.2 c_4
    refine lv_iload_n hx hb dCL_run_4 rfl (lv_at hl 1 rfl) ?_
    refine lv_iconst (v := 2) hx hb dCL_run_5 (by decide) ?_
    refine lv_icmp_le (tgt := 19) hx hb dCL_run_6 (by decide) (fun c_5 => ?_) (fun c_5 => ?_)
    · have hv := hv.1 c_5
      refine lv_iload_n hx hb dCL_run_19 rfl (lv_at hl 2 rfl) ?_
      refine lv_iconst (v := 1) hx hb dCL_run_20 (by decide) ?_
      refine lv_icmp_lt (tgt := 30) hx hb dCL_run_21 (by decide) (fun c_6 => ?_) (fun c_6 => ?_)
      · have hv := hv.1 c_6
        exact j30  hv _ _ _ hP hS (lv_sub hl [] rfl)
      · have hv := hv.2 c_6
        refine lv_iload_n hx hb dCL_run_24 rfl (lv_at hl 2 rfl) ?_
        refine lv_bipush (v := 64) hx hb dCL_run_25 (by decide) ?_
        refine lv_icmp_le (tgt := 40) hx hb dCL_run_27 (by decide) (fun c_7 => ?_) (fun c_7 => ?_)
        · have hv := hv.1 c_7
          refine lv_iload_n hx hb dCL_run_40 rfl (lv_at hl 3 rfl) ?_
          refine lv_if_lt (tgt := 50) hx hb dCL_run_41 (by decide) (fun c_8 => ?_) (fun c_8 => ?_)
          · have hv := hv.1 c_8
            exact j50  hv _ _ _ hP hS (lv_sub hl [] rfl)
          · have hv := hv.2 c_8
            refine lv_iload_n hx hb dCL_run_44 rfl (lv_at hl 3 rfl) ?_
            refine lv_bipush (v := 20) hx hb dCL_run_45 (by decide) ?_
            refine lv_icmp_le (tgt := 60) hx hb dCL_run_47 (by decide) (fun c_9 => ?_) (fun c_9 => ?_)
            · have hv := hv.1 c_9
              refine lv_iload_n hx hb dCL_run_60 rfl (lv_at hl 1 rfl) ?_
              refine lv_iconst (v := 2) hx hb dCL_run_61 (by decide) ?_
              refine lv_icmp_ne (tgt := 85) hx hb dCL_run_62 (by decide) (fun c_10 => ?_) (fun c_10 => ?_)
              · have hv := hv.1 c_10
                exact hv.elim
              · have hv := hv.2 c_10
                refine lv_aload_n hx hb dCL_run_65 rfl (lv_at hl 0 rfl) ?_
                refine va_get (D := (dC, dI)) (ci := 7) (v := .ref q_offer) (C := RCL) (T := TCL) (N := 11) hx hb hB hiCL hown hK hP 0 rfl rfl 7 (by decide) hL53 (fun _ h9 => h9) rfl dCL_run_66 ?_
                refine va_get (D := (dC, dI)) (ci := 3) (v := .int f_offer_size) (C := ROf) (T := TOf) (N := 3) hx hb hB hiOf hown hK hP 19 rfl rfl 2 (by decide) hL118 (fun _ h9 => h9) rfl dCL_run_69 ?_
                refine lv_if_ne (tgt := 85) hx hb dCL_run_72 (by decide) (fun c_11 => ?_) (fun c_11 => ?_)
                · have hv := hv.1 c_11
                  exact hv.elim
                · have hv := hv.2 c_11
                  subst hv
                  obtain ⟨sa_12, hsa_12⟩ := hZ.2.1 (RCL, 121, "nothing was given") (List.mem_of_getElem? (i := 6) rfl)
                  exact xt_throw hx hb hl9 hown (hB _ bw333) (hB _ bw58) hsa_12 (hx_IllegalArgumentException_101 hB hZ) hS (hl.1.trans hml.symm) dCL_run_75 dCL_run_78 dCL_run_79 dCL_run_81 dCL_run_84 hnoex (by decide +kernel) (Nat.le_of_ble_eq_true rfl) (Nat.le_of_ble_eq_true rfl) (Nat.le_of_ble_eq_true rfl) (Nat.le_of_ble_eq_true rfl) (Nat.le_of_ble_eq_true rfl) (Nat.le_of_ble_eq_true rfl) hlocks
            · have hv := hv.2 c_9
              exact j50  hv _ _ _ hP hS (lv_sub hl [] rfl)
        · have hv := hv.2 c_7
          exact j30  hv _ _ _ hP hS (lv_sub hl [] rfl)
    · have hv := hv.2 c_5
      exact j9  hv _ _ _ hP hS (lv_sub hl [] rfl)
set_option maxHeartbeats 4000000 in
set_option maxRecDepth 100000 in
theorem mtxCL_given (l : Launch) (hl9 : l.stackTraces = false) (dC : Nat → ClassId) (dI : Nat → Nat → Nat) (q_this q_offer q_offer_tint q_offer_there r_samples r_held r_shades r_boxes r_pools r_palette r_fitting r_carry : Nat) (c_offer_tint c_offer_there : ClassId) (n_offer_tint n_offer_there : Nat) (sz : Nat) (f_width : Int32) (f_height : Int32) (f_offer_size : Int32) (f_offer_tint : Nat → Int32) (f_offer_there : Nat → Int32) (x1 : Int32) (x2 : Int32) (x3 : Int32) (x4 : Int32) (x5 : Int32) {E : String} (hw : wxCL_given n_offer_tint n_offer_there f_width f_height f_offer_size f_offer_tint f_offer_there x1 x2 x3 x4 x5 E) : xt_Met l yCL_given (.code yCL_given bCL_given 6 (some .int) :: BIG) ({ frames := 7, cells := 1, slots := 6, locals := 123 }) (va_Pc [.ref q_this, .int x1, .int x2, .int x3, .int x4, .int x5] (gx_rpre (dC, dI) vwCl (wdCL_given q_this q_offer q_offer_tint q_offer_there r_samples r_held r_shades r_boxes r_pools r_palette r_fitting r_carry c_offer_tint c_offer_there n_offer_tint n_offer_there f_width f_height f_offer_size f_offer_tint f_offer_there) [(c_offer_tint, .int), (c_offer_there, .boolean)] sz)) E := by
  refine xt_ofW (cc := bCL_given) (maxL := 6) (ret := (some .int)) (by decide) rfl ?_
  intro p e s m args below meth c s₁ B hml hnoex hv
  obtain ⟨rfl, hsz, hP, hK, hZ⟩ := hv
  have hx := B.exec
  have hb := B.bytes
  have hts := atoms_spec (ws := (.code yCL_given bCL_given 6 (some .int) :: BIG)) B.pre
  have hB : ∀ w ∈ BIG, w.before _ s = true := fun w h => hts w (List.mem_cons_of_mem _ h)
  have hown : s.vm.findClass RCL = some m.cls := findClass_of_methodNamed B.named
  have hlocks := B.notSynchronized
  subst hsz
  have hA : ∀ q : Nat, s.heap.size ≤ q → (fun q : Nat => s.heap.size ≤ q) q := fun _ h => h
  have hS : va_S (fun q : Nat => s.heap.size ≤ q) s.heap s.heap [] := va_S.rf
  have hl := lv_entry ([.ref q_this, .int x1, .int x2, .int x3, .int x4, .int x5]) (n := 6) (Nat.le_of_ble_eq_true rfl)
  rw [lg_entry_eq]
  generalize (lg_sl ([.ref q_this, .int x1, .int x2, .int x3, .int x4, .int x5]) ++ List.replicate (6 - (lg_sl ([.ref q_this, .int x1, .int x2, .int x3, .int x4, .int x5])).length) Slot.unset).toArray = ls at hl ⊢
  have hl : lv_has ls 6 [(0, .ref q_this), (1, .int x1), (2, .int x2), (3, .int x3), (4, .int x4), (5, .int x5)] := hl
  refine gx_abs (fun G eG => ?_)
  have j10 : xcCL_given_10 n_offer_tint n_offer_there f_width f_height x1 x2 x3 x4 x5 E f_offer_size f_offer_tint f_offer_there → ∀ (H : Heap) (locs : List Loc) (ls : Array Slot), va_P (dC, dI) vwCl (wdCL_given q_this q_offer q_offer_tint q_offer_there r_samples r_held r_shades r_boxes r_pools r_palette r_fitting r_carry c_offer_tint c_offer_there n_offer_tint n_offer_there f_width f_height f_offer_size f_offer_tint f_offer_there) H → va_S (fun q : Nat => s.heap.size ≤ q) s.heap H locs → lv_has ls 6 [] → G H locs 0 0 (F0 m 10 ls []) := by
    intro  hv H locs ls hP hS hl
    rw [eG]
    unfold xcCL_given_10 at hv
    subst hv
    obtain ⟨sa_1, hsa_1⟩ := hZ.2.1 (RCL, 147, "no such place to give a colour for") (List.mem_of_getElem? (i := 7) rfl)
    exact xt_throw hx hb hl9 hown (hB _ bw280) (hB _ bw57) hsa_1 (hx_IndexOutOfBoundsException_149 hB hZ) hS (hl.1.trans hml.symm) dCL_given_10 dCL_given_13 dCL_given_14 dCL_given_16 dCL_given_19 hnoex (by decide +kernel) (Nat.le_of_ble_eq_true rfl) (Nat.le_of_ble_eq_true rfl) (Nat.le_of_ble_eq_true rfl) (Nat.le_of_ble_eq_true rfl) (Nat.le_of_ble_eq_true rfl) (Nat.le_of_ble_eq_true rfl) hlocks
  rw [eG] at j10
  unfold wxCL_given at hw
  have hv := hw
  rw [eG]
  refine lv_iload_n hx hb dCL_given_0 rfl (lv_at hl 1 rfl) ?_
  refine lv_if_lt (tgt := 10) hx hb dCL_given_1 (by decide) (fun c_2 => ?_) (fun c_2 => ?_)
  · have hv := hv.1 c_2
    exact j10  hv _ _ _ hP hS (lv_sub hl [] rfl)
  · have hv := hv.2 c_2
    refine lv_iload_n hx hb dCL_given_4 rfl (lv_at hl 1 rfl) ?_
    refine lv_bipush (v := 64) hx hb dCL_given_5 (by decide) ?_
    refine lv_icmp_lt (tgt := 20) hx hb dCL_given_7 (by decide) (fun c_3 => ?_) (fun c_3 => ?_)
    · have hv := hv.1 c_3
      refine lv_iload_n hx hb dCL_given_20 rfl (lv_at hl 2 rfl) ?_
      refine lv_iconst (v := (-1)) hx hb dCL_given_21 (by decide) ?_
      refine lv_icmp_ne (tgt := 36) hx hb dCL_given_22 (by decide) (fun c_4 => ?_) (fun c_4 => ?_)
      · have hv := hv.1 c_4
        refine lv_iload_n hx hb dCL_given_36 rfl (lv_at hl 2 rfl) ?_
        refine lv_iload_n hx hb dCL_given_37 rfl (lv_at hl 3 rfl) ?_
        refine lv_iload hx hb dCL_given_38 (lv_at hl 4 rfl) ?_
        refine lv_iload hx hb dCL_given_40 (lv_at hl 5 rfl) ?_
        rcases hv with hv | hv
        rotate_left
        · refine xt_Sc (As := [.int x2, .int x3, .int x4, .int x5]) (rest := []) ⟨hx, hb, hml, hown, hB⟩ (mtxCL_checkLevels l hl9 dC dI s.heap.size x2 x3 x4 x5 hv) (va_cwS 4 hB (gx_gS bw327 bw328 bw44 bw329) rfl rfl rfl (by decide +kernel) ⟨(Nat.le_of_ble_eq_true rfl), (Nat.le_of_ble_eq_true rfl)⟩) (gx_rpreS (hP.sub (ws' := wdCL_checkLevels) [] rfl) (hK.sub (tys' := []) [] rfl) hZ hS hA) rfl rfl hl.1 rfl (lv_room (Nat.le_of_ble_eq_true rfl)) dCL_given_42 ⟨(Nat.le_of_ble_eq_true rfl), (Nat.le_of_ble_eq_true rfl)⟩ (fun q9 ce H locs hz hk hce hcv hcl hlo => ?_)
          exact xt_out hnoex hlocks hce hcv hcl (xt_S hS hz hk hlo hA) (Nat.le_of_ble_eq_true rfl) (Nat.le_of_ble_eq_true rfl)
        refine gx_rv (va_runS (As := [.int x2, .int x3, .int x4, .int x5]) (rest := []) ⟨hx, hb, hml, hown, hB⟩ (metCL_checkLevels l dC dI s.heap.size x2 x3 x4 x5 hv) (va_cwS 4 hB (gx_gS bw327 bw328 bw44 bw329) rfl rfl rfl (by decide +kernel) ⟨(Nat.le_of_ble_eq_true rfl), (Nat.le_of_ble_eq_true rfl)⟩) (gx_rpreS (hP.sub (ws' := wdCL_checkLevels) [] rfl) (hK.sub (tys' := []) [] rfl) hZ hS hA) rfl rfl hl.1 rfl (lv_room (Nat.le_of_ble_eq_true rfl)) dCL_given_42 ⟨(Nat.le_of_ble_eq_true rfl), (Nat.le_of_ble_eq_true rfl)⟩) hP hS hA (fun H locs hv hP hS => ?_)
        exact hv.elim
      · have hv := hv.2 c_4
        exact hv.elim
    · have hv := hv.2 c_3
      exact j10  hv _ _ _ hP hS (lv_sub hl [] rfl)
set_option maxHeartbeats 4000000 in
set_option maxRecDepth 100000 in
theorem mtxCL_checkPalette (l : Launch) (hl9 : l.stackTraces = false) (dC : Nat → ClassId) (dI : Nat → Nat → Nat) (q_this q_palette r_samples r_held r_shades r_boxes r_pools r_offer r_fitting r_carry r_palette_levels : Nat) (sz : Nat) (f_width : Int32) (f_height : Int32) (f_palette_size : Int32) {E : String} (hw : wxCL_checkPalette f_width f_height f_palette_size E) : xt_Met l yCL_checkPalette (.code yCL_checkPalette bCL_checkPalette 1 none :: BIG) ({ frames := 6, cells := 1, slots := 6, locals := 100 }) (va_Pc [.ref q_this] (gx_rpre (dC, dI) vwCl (wdCL_checkPalette q_this q_palette r_samples r_held r_shades r_boxes r_pools r_offer r_fitting r_carry r_palette_levels f_width f_height f_palette_size) [] sz)) E := by
  refine xt_ofW (cc := bCL_checkPalette) (maxL := 1) (ret := none) (by decide) rfl ?_
  intro p e s m args below meth c s₁ B hml hnoex hv
  obtain ⟨rfl, hsz, hP, hK, hZ⟩ := hv
  have hx := B.exec
  have hb := B.bytes
  have hts := atoms_spec (ws := (.code yCL_checkPalette bCL_checkPalette 1 none :: BIG)) B.pre
  have hB : ∀ w ∈ BIG, w.before _ s = true := fun w h => hts w (List.mem_cons_of_mem _ h)
  have hown : s.vm.findClass RCL = some m.cls := findClass_of_methodNamed B.named
  have hlocks := B.notSynchronized
  subst hsz
  have hA : ∀ q : Nat, s.heap.size ≤ q → (fun q : Nat => s.heap.size ≤ q) q := fun _ h => h
  have hS : va_S (fun q : Nat => s.heap.size ≤ q) s.heap s.heap [] := va_S.rf
  have hl := lv_entry ([.ref q_this]) (n := 1) (Nat.le_of_ble_eq_true rfl)
  rw [lg_entry_eq]
  generalize (lg_sl ([.ref q_this]) ++ List.replicate (1 - (lg_sl ([.ref q_this])).length) Slot.unset).toArray = ls at hl ⊢
  have hl : lv_has ls 1 [(0, .ref q_this)] := hl
  have hL60 := (hB _ bw211)
  have hL144 := (hB _ bw169)
  unfold wxCL_checkPalette at hw
  have hv := hw
  refine lv_aload_n hx hb dCL_checkPalette_0 rfl (lv_at hl 0 rfl) ?_
  refine va_get (D := (dC, dI)) (ci := 7) (v := .ref q_palette) (C := RCL) (T := TCL) (N := 11) hx hb hB hiCL hown hK hP 0 rfl rfl 8 (by decide) hL60 (fun _ h9 => h9) rfl dCL_checkPalette_1 ?_
  refine va_get (D := (dC, dI)) (ci := 4) (v := .int f_palette_size) (C := RPa) (T := TPa) (N := 2) hx hb hB hiPa hown hK hP 1 rfl rfl 1 (by decide) hL144 (fun _ h9 => h9) rfl dCL_checkPalette_4 ?_
  refine lv_if_ne (tgt := 20) hx hb dCL_checkPalette_7 (by decide) (fun c_1 => ?_) (fun c_1 => ?_)
  · have hv := hv.1 c_1
    exact hv.elim
  · have hv := hv.2 c_1
    subst hv
    obtain ⟨sa_2, hsa_2⟩ := hZ.2.1 (RCL, 207, "there is no palette") (List.mem_of_getElem? (i := 8) rfl)
    exact xt_throw hx hb hl9 hown (hB _ bw526) (hB _ bw61) hsa_2 (hx_IllegalStateException_209 hB hZ) hS (hl.1.trans hml.symm) dCL_checkPalette_10 dCL_checkPalette_13 dCL_checkPalette_14 dCL_checkPalette_16 dCL_checkPalette_19 hnoex (by decide +kernel) (Nat.le_of_ble_eq_true rfl) (Nat.le_of_ble_eq_true rfl) (Nat.le_of_ble_eq_true rfl) (Nat.le_of_ble_eq_true rfl) (Nat.le_of_ble_eq_true rfl) (Nat.le_of_ble_eq_true rfl) hlocks
set_option maxHeartbeats 4000000 in
set_option maxRecDepth 100000 in
theorem mtxCL_checkPaletteColour (l : Launch) (hl9 : l.stackTraces = false) (dC : Nat → ClassId) (dI : Nat → Nat → Nat) (q_this q_palette r_samples r_held r_shades r_boxes r_pools r_offer r_fitting r_carry r_palette_levels : Nat) (sz : Nat) (f_width : Int32) (f_height : Int32) (f_palette_size : Int32) (x1 : Int32) {E : String} (hw : wxCL_checkPaletteColour f_width f_height f_palette_size x1 E) : xt_Met l yCL_checkPaletteColour (.code yCL_checkPaletteColour bCL_checkPaletteColour 2 none :: BIG) ({ frames := 6, cells := 1, slots := 6, locals := 100 }) (va_Pc [.ref q_this, .int x1] (gx_rpre (dC, dI) vwCl (wdCL_checkPaletteColour q_this q_palette r_samples r_held r_shades r_boxes r_pools r_offer r_fitting r_carry r_palette_levels f_width f_height f_palette_size) [] sz)) E := by
  refine xt_ofW (cc := bCL_checkPaletteColour) (maxL := 2) (ret := none) (by decide) rfl ?_
  intro p e s m args below meth c s₁ B hml hnoex hv
  obtain ⟨rfl, hsz, hP, hK, hZ⟩ := hv
  have hx := B.exec
  have hb := B.bytes
  have hts := atoms_spec (ws := (.code yCL_checkPaletteColour bCL_checkPaletteColour 2 none :: BIG)) B.pre
  have hB : ∀ w ∈ BIG, w.before _ s = true := fun w h => hts w (List.mem_cons_of_mem _ h)
  have hown : s.vm.findClass RCL = some m.cls := findClass_of_methodNamed B.named
  have hlocks := B.notSynchronized
  subst hsz
  have hA : ∀ q : Nat, s.heap.size ≤ q → (fun q : Nat => s.heap.size ≤ q) q := fun _ h => h
  have hS : va_S (fun q : Nat => s.heap.size ≤ q) s.heap s.heap [] := va_S.rf
  have hl := lv_entry ([.ref q_this, .int x1]) (n := 2) (Nat.le_of_ble_eq_true rfl)
  rw [lg_entry_eq]
  generalize (lg_sl ([.ref q_this, .int x1]) ++ List.replicate (2 - (lg_sl ([.ref q_this, .int x1])).length) Slot.unset).toArray = ls at hl ⊢
  have hl : lv_has ls 2 [(0, .ref q_this), (1, .int x1)] := hl
  have hL60 := (hB _ bw211)
  have hL144 := (hB _ bw169)
  refine gx_abs (fun G eG => ?_)
  have j15 : xcCL_checkPaletteColour_15 f_width f_height f_palette_size x1 E → ∀ (H : Heap) (locs : List Loc) (ls : Array Slot), va_P (dC, dI) vwCl (wdCL_checkPaletteColour q_this q_palette r_samples r_held r_shades r_boxes r_pools r_offer r_fitting r_carry r_palette_levels f_width f_height f_palette_size) H → va_S (fun q : Nat => s.heap.size ≤ q) s.heap H locs → lv_has ls 2 [] → G H locs 0 0 (F0 m 15 ls []) := by
    intro  hv H locs ls hP hS hl
    rw [eG]
    unfold xcCL_checkPaletteColour_15 at hv
    subst hv
    obtain ⟨sa_1, hsa_1⟩ := hZ.2.1 (RCL, 210, "no such place of the palette") (List.mem_of_getElem? (i := 9) rfl)
    exact xt_throw hx hb hl9 hown (hB _ bw280) (hB _ bw57) hsa_1 (hx_IndexOutOfBoundsException_149 hB hZ) hS (hl.1.trans hml.symm) dCL_checkPaletteColour_15 dCL_checkPaletteColour_18 dCL_checkPaletteColour_19 dCL_checkPaletteColour_21 dCL_checkPaletteColour_24 hnoex (by decide +kernel) (Nat.le_of_ble_eq_true rfl) (Nat.le_of_ble_eq_true rfl) (Nat.le_of_ble_eq_true rfl) (Nat.le_of_ble_eq_true rfl) (Nat.le_of_ble_eq_true rfl) (Nat.le_of_ble_eq_true rfl) hlocks
  rw [eG] at j15
  unfold wxCL_checkPaletteColour at hw
  have hv := hw
  rw [eG]
  refine lv_iload_n hx hb dCL_checkPaletteColour_0 rfl (lv_at hl 1 rfl) ?_
  refine lv_if_lt (tgt := 15) hx hb dCL_checkPaletteColour_1 (by decide) (fun c_2 => ?_) (fun c_2 => ?_)
  · have hv := hv.1 c_2
    exact j15  hv _ _ _ hP hS (lv_sub hl [] rfl)
  · have hv := hv.2 c_2
    refine lv_iload_n hx hb dCL_checkPaletteColour_4 rfl (lv_at hl 1 rfl) ?_
    refine lv_aload_n hx hb dCL_checkPaletteColour_5 rfl (lv_at hl 0 rfl) ?_
    refine va_get (D := (dC, dI)) (ci := 7) (v := .ref q_palette) (C := RCL) (T := TCL) (N := 11) hx hb hB hiCL hown hK hP 0 rfl rfl 8 (by decide) hL60 (fun _ h9 => h9) rfl dCL_checkPaletteColour_6 ?_
    refine va_get (D := (dC, dI)) (ci := 4) (v := .int f_palette_size) (C := RPa) (T := TPa) (N := 2) hx hb hB hiPa hown hK hP 1 rfl rfl 1 (by decide) hL144 (fun _ h9 => h9) rfl dCL_checkPaletteColour_9 ?_
    refine lv_icmp_lt (tgt := 25) hx hb dCL_checkPaletteColour_12 (by decide) (fun c_3 => ?_) (fun c_3 => ?_)
    · have hv := hv.1 c_3
      exact hv.elim
    · have hv := hv.2 c_3
      exact j15  hv _ _ _ hP hS (lv_sub hl [] rfl)
set_option maxHeartbeats 4000000 in
set_option maxRecDepth 100000 in
theorem mtxCL_colour (l : Launch) (hl9 : l.stackTraces = false) (dC : Nat → ClassId) (dI : Nat → Nat → Nat) (q_this q_palette q_palette_levels r_samples r_held r_shades r_boxes r_pools r_offer r_fitting r_carry : Nat) (c_palette_levels : ClassId) (n_palette_levels : Nat) (sz : Nat) (f_width : Int32) (f_height : Int32) (f_palette_size : Int32) (f_palette_levels : Nat → Int32) (x1 : Int32) (x2 : Int32) {E : String} (hw : wxCL_colour n_palette_levels f_width f_height f_palette_size f_palette_levels x1 x2 E) : xt_Met l yCL_colour (.code yCL_colour bCL_colour 3 (some .int) :: BIG) ({ frames := 7, cells := 1, slots := 6, locals := 121 }) (va_Pc [.ref q_this, .int x1, .int x2] (gx_rpre (dC, dI) vwCl (wdCL_colour q_this q_palette q_palette_levels r_samples r_held r_shades r_boxes r_pools r_offer r_fitting r_carry c_palette_levels n_palette_levels f_width f_height f_palette_size f_palette_levels) [(c_palette_levels, .int)] sz)) E := by
  refine xt_ofW (cc := bCL_colour) (maxL := 3) (ret := (some .int)) (by decide) rfl ?_
  intro p e s m args below meth c s₁ B hml hnoex hv
  obtain ⟨rfl, hsz, hP, hK, hZ⟩ := hv
  have hx := B.exec
  have hb := B.bytes
  have hts := atoms_spec (ws := (.code yCL_colour bCL_colour 3 (some .int) :: BIG)) B.pre
  have hB : ∀ w ∈ BIG, w.before _ s = true := fun w h => hts w (List.mem_cons_of_mem _ h)
  have hown : s.vm.findClass RCL = some m.cls := findClass_of_methodNamed B.named
  have hlocks := B.notSynchronized
  subst hsz
  have hA : ∀ q : Nat, s.heap.size ≤ q → (fun q : Nat => s.heap.size ≤ q) q := fun _ h => h
  have hS : va_S (fun q : Nat => s.heap.size ≤ q) s.heap s.heap [] := va_S.rf
  have hl := lv_entry ([.ref q_this, .int x1, .int x2]) (n := 3) (Nat.le_of_ble_eq_true rfl)
  rw [lg_entry_eq]
  generalize (lg_sl ([.ref q_this, .int x1, .int x2]) ++ List.replicate (3 - (lg_sl ([.ref q_this, .int x1, .int x2])).length) Slot.unset).toArray = ls at hl ⊢
  have hl : lv_has ls 3 [(0, .ref q_this), (1, .int x1), (2, .int x2)] := hl
  refine gx_abs (fun G eG => ?_)
  have j18 : xcCL_colour_18 n_palette_levels f_width f_height f_palette_size f_palette_levels x1 x2 E → ∀ (H : Heap) (locs : List Loc) (ls : Array Slot), va_P (dC, dI) vwCl (wdCL_colour q_this q_palette q_palette_levels r_samples r_held r_shades r_boxes r_pools r_offer r_fitting r_carry c_palette_levels n_palette_levels f_width f_height f_palette_size f_palette_levels) H → va_S (fun q : Nat => s.heap.size ≤ q) s.heap H locs → lv_has ls 3 [] → G H locs 0 0 (F0 m 18 ls []) := by
    intro  hv H locs ls hP hS hl
    rw [eG]
    unfold xcCL_colour_18 at hv
    subst hv
    obtain ⟨sa_1, hsa_1⟩ := hZ.2.1 (RCL, 162, "no such channel") (List.mem_of_getElem? (i := 10) rfl)
    exact xt_throw hx hb hl9 hown (hB _ bw280) (hB _ bw57) hsa_1 (hx_IndexOutOfBoundsException_149 hB hZ) hS (hl.1.trans hml.symm) dCL_colour_18 dCL_colour_21 dCL_colour_22 dCL_colour_24 dCL_colour_27 hnoex (by decide +kernel) (Nat.le_of_ble_eq_true rfl) (Nat.le_of_ble_eq_true rfl) (Nat.le_of_ble_eq_true rfl) (Nat.le_of_ble_eq_true rfl) (Nat.le_of_ble_eq_true rfl) (Nat.le_of_ble_eq_true rfl) hlocks
  rw [eG] at j18
  unfold wxCL_colour at hw
  have hv := hw
  rw [eG]
  refine lv_aload_n hx hb dCL_colour_0 rfl (lv_at hl 0 rfl) ?_
  rcases hv with hv | hv
  rotate_left
  · refine xt_V (As := []) (rest := []) ⟨hx, hb, hml, hown, hB⟩ (mtxCL_checkPalette l hl9 dC dI q_this q_palette r_samples r_held r_shades r_boxes r_pools r_offer r_fitting r_carry q_palette_levels s.heap.size f_width f_height f_palette_size hv) (cwV 0 hB (gx_gV bw523 bw524 bw19 bw44 bw525) rfl rfl rfl (by decide +kernel) ⟨(Nat.le_of_ble_eq_true rfl), (Nat.le_of_ble_eq_true rfl)⟩) (gx_rpreV (ci := 7) (hP.sub (ws' := (wdCL_checkPalette q_this q_palette r_samples r_held r_shades r_boxes r_pools r_offer r_fitting r_carry q_palette_levels f_width f_height f_palette_size)) [0, 1] rfl) (hK.sub (tys' := []) [] rfl) hZ hS hA rfl rfl) rfl rfl hl.1 rfl (lv_room (Nat.le_of_ble_eq_true rfl)) dCL_colour_1 ⟨(Nat.le_of_ble_eq_true rfl), (Nat.le_of_ble_eq_true rfl)⟩ (fun q9 ce H locs hz hk hce hcv hcl hlo => ?_)
    exact xt_out hnoex hlocks hce hcv hcl (xt_S hS hz hk hlo hA) (Nat.le_of_ble_eq_true rfl) (Nat.le_of_ble_eq_true rfl)
  refine gx_rv (va_runV (As := []) (rest := []) ⟨hx, hb, hml, hown, hB⟩ (metCL_checkPalette l dC dI q_this q_palette r_samples r_held r_shades r_boxes r_pools r_offer r_fitting r_carry q_palette_levels s.heap.size f_width f_height f_palette_size hv) (cwV 0 hB (gx_gV bw523 bw524 bw19 bw44 bw525) rfl rfl rfl (by decide +kernel) ⟨(Nat.le_of_ble_eq_true rfl), (Nat.le_of_ble_eq_true rfl)⟩) (gx_rpreV (ci := 7) (hP.sub (ws' := (wdCL_checkPalette q_this q_palette r_samples r_held r_shades r_boxes r_pools r_offer r_fitting r_carry q_palette_levels f_width f_height f_palette_size)) [0, 1] rfl) (hK.sub (tys' := []) [] rfl) hZ hS hA rfl rfl) rfl rfl hl.1 rfl (lv_room (Nat.le_of_ble_eq_true rfl)) dCL_colour_1 ⟨(Nat.le_of_ble_eq_true rfl), (Nat.le_of_ble_eq_true rfl)⟩) hP hS hA (fun H locs hv hP hS => ?_)
  refine lv_aload_n hx hb dCL_colour_4 rfl (lv_at hl 0 rfl) ?_
  refine lv_iload_n hx hb dCL_colour_5 rfl (lv_at hl 1 rfl) ?_
  rcases hv with hv | hv
  rotate_left
  · refine xt_V (As := [.int x1]) (rest := []) ⟨hx, hb, hml, hown, hB⟩ (mtxCL_checkPaletteColour l hl9 dC dI q_this q_palette r_samples r_held r_shades r_boxes r_pools r_offer r_fitting r_carry q_palette_levels H.size f_width f_height f_palette_size x1 hv) (cwV 1 hB (gx_gV bw539 bw540 bw20 bw44 bw541) rfl rfl rfl (by decide +kernel) ⟨(Nat.le_of_ble_eq_true rfl), (Nat.le_of_ble_eq_true rfl)⟩) (gx_rpreV (ci := 7) (hP.sub (ws' := (wdCL_checkPaletteColour q_this q_palette r_samples r_held r_shades r_boxes r_pools r_offer r_fitting r_carry q_palette_levels f_width f_height f_palette_size)) [0, 1] rfl) (hK.sub (tys' := []) [] rfl) hZ hS hA rfl rfl) rfl rfl hl.1 rfl (lv_room (Nat.le_of_ble_eq_true rfl)) dCL_colour_6 ⟨(Nat.le_of_ble_eq_true rfl), (Nat.le_of_ble_eq_true rfl)⟩ (fun q9 ce H locs hz hk hce hcv hcl hlo => ?_)
    exact xt_out hnoex hlocks hce hcv hcl (xt_S hS hz hk hlo hA) (Nat.le_of_ble_eq_true rfl) (Nat.le_of_ble_eq_true rfl)
  refine gx_rv (va_runV (As := [.int x1]) (rest := []) ⟨hx, hb, hml, hown, hB⟩ (metCL_checkPaletteColour l dC dI q_this q_palette r_samples r_held r_shades r_boxes r_pools r_offer r_fitting r_carry q_palette_levels H.size f_width f_height f_palette_size x1 hv) (cwV 1 hB (gx_gV bw539 bw540 bw20 bw44 bw541) rfl rfl rfl (by decide +kernel) ⟨(Nat.le_of_ble_eq_true rfl), (Nat.le_of_ble_eq_true rfl)⟩) (gx_rpreV (ci := 7) (hP.sub (ws' := (wdCL_checkPaletteColour q_this q_palette r_samples r_held r_shades r_boxes r_pools r_offer r_fitting r_carry q_palette_levels f_width f_height f_palette_size)) [0, 1] rfl) (hK.sub (tys' := []) [] rfl) hZ hS hA rfl rfl) rfl rfl hl.1 rfl (lv_room (Nat.le_of_ble_eq_true rfl)) dCL_colour_6 ⟨(Nat.le_of_ble_eq_true rfl), (Nat.le_of_ble_eq_true rfl)⟩) hP hS hA (fun H locs hv hP hS => ?_)
  refine lv_iload_n hx hb dCL_colour_9 rfl (lv_at hl 2 rfl) ?_
  refine lv_if_lt (tgt := 18) hx hb dCL_colour_10 (by decide) (fun c_4 => ?_) (fun c_4 => ?_)
  · have hv := hv.1 c_4
    exact j18  hv _ _ _ hP hS (lv_sub hl [] rfl)
  · have hv := hv.2 c_4
    refine lv_iload_n hx hb dCL_colour_13 rfl (lv_at hl 2 rfl) ?_
    refine lv_iconst (v := 4) hx hb dCL_colour_14 (by decide) ?_
    refine lv_icmp_lt (tgt := 28) hx hb dCL_colour_15 (by decide) (fun c_5 => ?_) (fun c_5 => ?_)
    · have hv := hv.1 c_5
      exact hv.elim
    · have hv := hv.2 c_5
      exact j18  hv _ _ _ hP hS (lv_sub hl [] rfl)
set_option maxHeartbeats 4000000 in
set_option maxRecDepth 100000 in
theorem mtxCL_index (l : Launch) (hl9 : l.stackTraces = false) (dC : Nat → ClassId) (dI : Nat → Nat → Nat) (q_this q_held q_palette r_samples r_shades r_boxes r_pools r_offer r_fitting r_carry r_palette_levels : Nat) (c_held : ClassId) (n_held : Nat) (sz : Nat) (f_width : Int32) (f_height : Int32) (f_held : Nat → Int32) (f_palette_size : Int32) (x1 : Int32) (x2 : Int32) {E : String} (hw : wxCL_index n_held f_width f_height f_held f_palette_size x1 x2 E) : xt_Met l yCL_index (.code yCL_index bCL_index 3 (some .int) :: BIG) ({ frames := 7, cells := 1, slots := 6, locals := 122 }) (va_Pc [.ref q_this, .int x1, .int x2] (gx_rpre (dC, dI) vwCl (wdCL_index q_this q_held q_palette r_samples r_shades r_boxes r_pools r_offer r_fitting r_carry r_palette_levels c_held n_held f_width f_height f_held f_palette_size) [(c_held, .int)] sz)) E := by
  refine xt_ofW (cc := bCL_index) (maxL := 3) (ret := (some .int)) (by decide) rfl ?_
  intro p e s m args below meth c s₁ B hml hnoex hv
  obtain ⟨rfl, hsz, hP, hK, hZ⟩ := hv
  have hx := B.exec
  have hb := B.bytes
  have hts := atoms_spec (ws := (.code yCL_index bCL_index 3 (some .int) :: BIG)) B.pre
  have hB : ∀ w ∈ BIG, w.before _ s = true := fun w h => hts w (List.mem_cons_of_mem _ h)
  have hown : s.vm.findClass RCL = some m.cls := findClass_of_methodNamed B.named
  have hlocks := B.notSynchronized
  subst hsz
  have hA : ∀ q : Nat, s.heap.size ≤ q → (fun q : Nat => s.heap.size ≤ q) q := fun _ h => h
  have hS : va_S (fun q : Nat => s.heap.size ≤ q) s.heap s.heap [] := va_S.rf
  have hl := lv_entry ([.ref q_this, .int x1, .int x2]) (n := 3) (Nat.le_of_ble_eq_true rfl)
  rw [lg_entry_eq]
  generalize (lg_sl ([.ref q_this, .int x1, .int x2]) ++ List.replicate (3 - (lg_sl ([.ref q_this, .int x1, .int x2])).length) Slot.unset).toArray = ls at hl ⊢
  have hl : lv_has ls 3 [(0, .ref q_this), (1, .int x1), (2, .int x2)] := hl
  unfold wxCL_index at hw
  have hv := hw
  refine lv_aload_n hx hb dCL_index_0 rfl (lv_at hl 0 rfl) ?_
  rcases hv with hv | hv
  rotate_left
  · refine xt_V (As := []) (rest := []) ⟨hx, hb, hml, hown, hB⟩ (mtxCL_checkPalette l hl9 dC dI q_this q_palette r_samples q_held r_shades r_boxes r_pools r_offer r_fitting r_carry r_palette_levels s.heap.size f_width f_height f_palette_size hv) (cwV 0 hB (gx_gV bw523 bw524 bw19 bw44 bw525) rfl rfl rfl (by decide +kernel) ⟨(Nat.le_of_ble_eq_true rfl), (Nat.le_of_ble_eq_true rfl)⟩) (gx_rpreV (ci := 7) (hP.sub (ws' := (wdCL_checkPalette q_this q_palette r_samples q_held r_shades r_boxes r_pools r_offer r_fitting r_carry r_palette_levels f_width f_height f_palette_size)) [0, 2] rfl) (hK.sub (tys' := []) [] rfl) hZ hS hA rfl rfl) rfl rfl hl.1 rfl (lv_room (Nat.le_of_ble_eq_true rfl)) dCL_index_1 ⟨(Nat.le_of_ble_eq_true rfl), (Nat.le_of_ble_eq_true rfl)⟩ (fun q9 ce H locs hz hk hce hcv hcl hlo => ?_)
    exact xt_out hnoex hlocks hce hcv hcl (xt_S hS hz hk hlo hA) (Nat.le_of_ble_eq_true rfl) (Nat.le_of_ble_eq_true rfl)
  refine gx_rv (va_runV (As := []) (rest := []) ⟨hx, hb, hml, hown, hB⟩ (metCL_checkPalette l dC dI q_this q_palette r_samples q_held r_shades r_boxes r_pools r_offer r_fitting r_carry r_palette_levels s.heap.size f_width f_height f_palette_size hv) (cwV 0 hB (gx_gV bw523 bw524 bw19 bw44 bw525) rfl rfl rfl (by decide +kernel) ⟨(Nat.le_of_ble_eq_true rfl), (Nat.le_of_ble_eq_true rfl)⟩) (gx_rpreV (ci := 7) (hP.sub (ws' := (wdCL_checkPalette q_this q_palette r_samples q_held r_shades r_boxes r_pools r_offer r_fitting r_carry r_palette_levels f_width f_height f_palette_size)) [0, 2] rfl) (hK.sub (tys' := []) [] rfl) hZ hS hA rfl rfl) rfl rfl hl.1 rfl (lv_room (Nat.le_of_ble_eq_true rfl)) dCL_index_1 ⟨(Nat.le_of_ble_eq_true rfl), (Nat.le_of_ble_eq_true rfl)⟩) hP hS hA (fun H locs hv hP hS => ?_)
  refine lv_aload_n hx hb dCL_index_4 rfl (lv_at hl 0 rfl) ?_
  refine lv_iload_n hx hb dCL_index_5 rfl (lv_at hl 1 rfl) ?_
  refine lv_iload_n hx hb dCL_index_6 rfl (lv_at hl 2 rfl) ?_
  rcases hv with hv | hv
  rotate_left
  · refine xt_V (As := [.int x1, .int x2]) (rest := []) ⟨hx, hb, hml, hown, hB⟩ (mtxCL_checkPlace l hl9 dC dI q_this r_samples q_held r_shades r_boxes r_pools r_offer q_palette r_fitting r_carry H.size f_width f_height x1 x2 hv) (cwV 2 hB (gx_gV bw277 bw278 bw2 bw44 bw279) rfl rfl rfl (by decide +kernel) ⟨(Nat.le_of_ble_eq_true rfl), (Nat.le_of_ble_eq_true rfl)⟩) (gx_rpreV (ci := 7) (hP.sub (ws' := (wdCL_checkPlace q_this r_samples q_held r_shades r_boxes r_pools r_offer q_palette r_fitting r_carry f_width f_height)) [0] rfl) (hK.sub (tys' := []) [] rfl) hZ hS hA rfl rfl) rfl rfl hl.1 rfl (lv_room (Nat.le_of_ble_eq_true rfl)) dCL_index_7 ⟨(Nat.le_of_ble_eq_true rfl), (Nat.le_of_ble_eq_true rfl)⟩ (fun q9 ce H locs hz hk hce hcv hcl hlo => ?_)
    exact xt_out hnoex hlocks hce hcv hcl (xt_S hS hz hk hlo hA) (Nat.le_of_ble_eq_true rfl) (Nat.le_of_ble_eq_true rfl)
  refine gx_rv (va_runV (As := [.int x1, .int x2]) (rest := []) ⟨hx, hb, hml, hown, hB⟩ (metCL_checkPlace l dC dI q_this r_samples q_held r_shades r_boxes r_pools r_offer q_palette r_fitting r_carry H.size f_width f_height x1 x2 hv) (cwV 2 hB (gx_gV bw277 bw278 bw2 bw44 bw279) rfl rfl rfl (by decide +kernel) ⟨(Nat.le_of_ble_eq_true rfl), (Nat.le_of_ble_eq_true rfl)⟩) (gx_rpreV (ci := 7) (hP.sub (ws' := (wdCL_checkPlace q_this r_samples q_held r_shades r_boxes r_pools r_offer q_palette r_fitting r_carry f_width f_height)) [0] rfl) (hK.sub (tys' := []) [] rfl) hZ hS hA rfl rfl) rfl rfl hl.1 rfl (lv_room (Nat.le_of_ble_eq_true rfl)) dCL_index_7 ⟨(Nat.le_of_ble_eq_true rfl), (Nat.le_of_ble_eq_true rfl)⟩) hP hS hA (fun H locs hv hP hS => ?_)
  exact hv.elim
set_option maxHeartbeats 4000000 in
set_option maxRecDepth 100000 in
theorem mtxCL_nearest (l : Launch) (hl9 : l.stackTraces = false) (dC : Nat → ClassId) (dI : Nat → Nat → Nat) (q_this q_palette q_palette_levels r_samples r_held r_shades r_boxes r_pools r_offer r_fitting r_carry : Nat) (c_palette_levels : ClassId) (n_palette_levels : Nat) (sz : Nat) (f_width : Int32) (f_height : Int32) (f_palette_size : Int32) (f_palette_levels : Nat → Int32) (x1 : Int32) (x2 : Int32) (x3 : Int32) (x4 : Int32) {E : String} (hw : wxCL_nearest n_palette_levels f_width f_height f_palette_size f_palette_levels x1 x2 x3 x4 E) : xt_Met l yCL_nearest (.code yCL_nearest bCL_nearest 5 (some .int) :: BIG) ({ frames := 7, cells := 1, slots := 6, locals := 123 }) (va_Pc [.ref q_this, .int x1, .int x2, .int x3, .int x4] (gx_rpre (dC, dI) vwCl (wdCL_nearest q_this q_palette q_palette_levels r_samples r_held r_shades r_boxes r_pools r_offer r_fitting r_carry c_palette_levels n_palette_levels f_width f_height f_palette_size f_palette_levels) [(c_palette_levels, .int)] sz)) E := by
  refine xt_ofW (cc := bCL_nearest) (maxL := 5) (ret := (some .int)) (by decide) rfl ?_
  intro p e s m args below meth c s₁ B hml hnoex hv
  obtain ⟨rfl, hsz, hP, hK, hZ⟩ := hv
  have hx := B.exec
  have hb := B.bytes
  have hts := atoms_spec (ws := (.code yCL_nearest bCL_nearest 5 (some .int) :: BIG)) B.pre
  have hB : ∀ w ∈ BIG, w.before _ s = true := fun w h => hts w (List.mem_cons_of_mem _ h)
  have hown : s.vm.findClass RCL = some m.cls := findClass_of_methodNamed B.named
  have hlocks := B.notSynchronized
  subst hsz
  have hA : ∀ q : Nat, s.heap.size ≤ q → (fun q : Nat => s.heap.size ≤ q) q := fun _ h => h
  have hS : va_S (fun q : Nat => s.heap.size ≤ q) s.heap s.heap [] := va_S.rf
  have hl := lv_entry ([.ref q_this, .int x1, .int x2, .int x3, .int x4]) (n := 5) (Nat.le_of_ble_eq_true rfl)
  rw [lg_entry_eq]
  generalize (lg_sl ([.ref q_this, .int x1, .int x2, .int x3, .int x4]) ++ List.replicate (5 - (lg_sl ([.ref q_this, .int x1, .int x2, .int x3, .int x4])).length) Slot.unset).toArray = ls at hl ⊢
  have hl : lv_has ls 5 [(0, .ref q_this), (1, .int x1), (2, .int x2), (3, .int x3), (4, .int x4)] := hl
  unfold wxCL_nearest at hw
  have hv := hw
  refine lv_aload_n hx hb dCL_nearest_0 rfl (lv_at hl 0 rfl) ?_
  rcases hv with hv | hv
  rotate_left
  · refine xt_V (As := []) (rest := []) ⟨hx, hb, hml, hown, hB⟩ (mtxCL_checkPalette l hl9 dC dI q_this q_palette r_samples r_held r_shades r_boxes r_pools r_offer r_fitting r_carry q_palette_levels s.heap.size f_width f_height f_palette_size hv) (cwV 0 hB (gx_gV bw523 bw524 bw19 bw44 bw525) rfl rfl rfl (by decide +kernel) ⟨(Nat.le_of_ble_eq_true rfl), (Nat.le_of_ble_eq_true rfl)⟩) (gx_rpreV (ci := 7) (hP.sub (ws' := (wdCL_checkPalette q_this q_palette r_samples r_held r_shades r_boxes r_pools r_offer r_fitting r_carry q_palette_levels f_width f_height f_palette_size)) [0, 1] rfl) (hK.sub (tys' := []) [] rfl) hZ hS hA rfl rfl) rfl rfl hl.1 rfl (lv_room (Nat.le_of_ble_eq_true rfl)) dCL_nearest_1 ⟨(Nat.le_of_ble_eq_true rfl), (Nat.le_of_ble_eq_true rfl)⟩ (fun q9 ce H locs hz hk hce hcv hcl hlo => ?_)
    exact xt_out hnoex hlocks hce hcv hcl (xt_S hS hz hk hlo hA) (Nat.le_of_ble_eq_true rfl) (Nat.le_of_ble_eq_true rfl)
  refine gx_rv (va_runV (As := []) (rest := []) ⟨hx, hb, hml, hown, hB⟩ (metCL_checkPalette l dC dI q_this q_palette r_samples r_held r_shades r_boxes r_pools r_offer r_fitting r_carry q_palette_levels s.heap.size f_width f_height f_palette_size hv) (cwV 0 hB (gx_gV bw523 bw524 bw19 bw44 bw525) rfl rfl rfl (by decide +kernel) ⟨(Nat.le_of_ble_eq_true rfl), (Nat.le_of_ble_eq_true rfl)⟩) (gx_rpreV (ci := 7) (hP.sub (ws' := (wdCL_checkPalette q_this q_palette r_samples r_held r_shades r_boxes r_pools r_offer r_fitting r_carry q_palette_levels f_width f_height f_palette_size)) [0, 1] rfl) (hK.sub (tys' := []) [] rfl) hZ hS hA rfl rfl) rfl rfl hl.1 rfl (lv_room (Nat.le_of_ble_eq_true rfl)) dCL_nearest_1 ⟨(Nat.le_of_ble_eq_true rfl), (Nat.le_of_ble_eq_true rfl)⟩) hP hS hA (fun H locs hv hP hS => ?_)
  refine lv_iload_n hx hb dCL_nearest_4 rfl (lv_at hl 1 rfl) ?_
  refine lv_iload_n hx hb dCL_nearest_5 rfl (lv_at hl 2 rfl) ?_
  refine lv_iload_n hx hb dCL_nearest_6 rfl (lv_at hl 3 rfl) ?_
  refine lv_iload hx hb dCL_nearest_7 (lv_at hl 4 rfl) ?_
  rcases hv with hv | hv
  rotate_left
  · refine xt_Sc (As := [.int x1, .int x2, .int x3, .int x4]) (rest := []) ⟨hx, hb, hml, hown, hB⟩ (mtxCL_checkLevels l hl9 dC dI H.size x1 x2 x3 x4 hv) (va_cwS 4 hB (gx_gS bw327 bw328 bw44 bw329) rfl rfl rfl (by decide +kernel) ⟨(Nat.le_of_ble_eq_true rfl), (Nat.le_of_ble_eq_true rfl)⟩) (gx_rpreS (hP.sub (ws' := wdCL_checkLevels) [] rfl) (hK.sub (tys' := []) [] rfl) hZ hS hA) rfl rfl hl.1 rfl (lv_room (Nat.le_of_ble_eq_true rfl)) dCL_nearest_9 ⟨(Nat.le_of_ble_eq_true rfl), (Nat.le_of_ble_eq_true rfl)⟩ (fun q9 ce H locs hz hk hce hcv hcl hlo => ?_)
    exact xt_out hnoex hlocks hce hcv hcl (xt_S hS hz hk hlo hA) (Nat.le_of_ble_eq_true rfl) (Nat.le_of_ble_eq_true rfl)
  refine gx_rv (va_runS (As := [.int x1, .int x2, .int x3, .int x4]) (rest := []) ⟨hx, hb, hml, hown, hB⟩ (metCL_checkLevels l dC dI H.size x1 x2 x3 x4 hv) (va_cwS 4 hB (gx_gS bw327 bw328 bw44 bw329) rfl rfl rfl (by decide +kernel) ⟨(Nat.le_of_ble_eq_true rfl), (Nat.le_of_ble_eq_true rfl)⟩) (gx_rpreS (hP.sub (ws' := wdCL_checkLevels) [] rfl) (hK.sub (tys' := []) [] rfl) hZ hS hA) rfl rfl hl.1 rfl (lv_room (Nat.le_of_ble_eq_true rfl)) dCL_nearest_9 ⟨(Nat.le_of_ble_eq_true rfl), (Nat.le_of_ble_eq_true rfl)⟩) hP hS hA (fun H locs hv hP hS => ?_)
  exact hv.elim
set_option maxHeartbeats 4000000 in
set_option maxRecDepth 100000 in
theorem mtxCL_sum (l : Launch) (hl9 : l.stackTraces = false) (dC : Nat → ClassId) (dI : Nat → Nat → Nat) (q_this q_palette q_fitting q_fitting_missed r_samples r_held r_shades r_boxes r_pools r_offer r_carry r_palette_levels r_fitting_taken r_fitting_takers r_fitting_keys : Nat) (c_fitting_missed : ClassId) (n_fitting_missed : Nat) (sz : Nat) (f_width : Int32) (f_height : Int32) (f_palette_size : Int32) (f_fitting_rounds : Int32) (f_fitting_missed : Nat → Int64) (x1 : Int32) {E : String} (hw : wxCL_sum n_fitting_missed f_width f_height f_palette_size f_fitting_rounds f_fitting_missed x1 E) : xt_Met l yCL_sum (.code yCL_sum bCL_sum 2 (some .long) :: BIG) ({ frames := 7, cells := 1, slots := 6, locals := 120 }) (va_Pc [.ref q_this, .int x1] (gx_rpre (dC, dI) vwCl (wdCL_sum q_this q_palette q_fitting q_fitting_missed r_samples r_held r_shades r_boxes r_pools r_offer r_carry r_palette_levels r_fitting_taken r_fitting_takers r_fitting_keys c_fitting_missed n_fitting_missed f_width f_height f_palette_size f_fitting_rounds f_fitting_missed) [(c_fitting_missed, .long)] sz)) E := by
  refine xt_ofW (cc := bCL_sum) (maxL := 2) (ret := (some .long)) (by decide) rfl ?_
  intro p e s m args below meth c s₁ B hml hnoex hv
  obtain ⟨rfl, hsz, hP, hK, hZ⟩ := hv
  have hx := B.exec
  have hb := B.bytes
  have hts := atoms_spec (ws := (.code yCL_sum bCL_sum 2 (some .long) :: BIG)) B.pre
  have hB : ∀ w ∈ BIG, w.before _ s = true := fun w h => hts w (List.mem_cons_of_mem _ h)
  have hown : s.vm.findClass RCL = some m.cls := findClass_of_methodNamed B.named
  have hlocks := B.notSynchronized
  subst hsz
  have hA : ∀ q : Nat, s.heap.size ≤ q → (fun q : Nat => s.heap.size ≤ q) q := fun _ h => h
  have hS : va_S (fun q : Nat => s.heap.size ≤ q) s.heap s.heap [] := va_S.rf
  have hl := lv_entry ([.ref q_this, .int x1]) (n := 2) (Nat.le_of_ble_eq_true rfl)
  rw [lg_entry_eq]
  generalize (lg_sl ([.ref q_this, .int x1]) ++ List.replicate (2 - (lg_sl ([.ref q_this, .int x1])).length) Slot.unset).toArray = ls at hl ⊢
  have hl : lv_has ls 2 [(0, .ref q_this), (1, .int x1)] := hl
  have hL67 := (hB _ bw212)
  have hL170 := (hB _ bw185)
  refine gx_abs (fun G eG => ?_)
  have j19 : xcCL_sum_19 n_fitting_missed f_width f_height f_palette_size f_fitting_rounds f_fitting_missed x1 E → ∀ (H : Heap) (locs : List Loc) (ls : Array Slot), va_P (dC, dI) vwCl (wdCL_sum q_this q_palette q_fitting q_fitting_missed r_samples r_held r_shades r_boxes r_pools r_offer r_carry r_palette_levels r_fitting_taken r_fitting_takers r_fitting_keys c_fitting_missed n_fitting_missed f_width f_height f_palette_size f_fitting_rounds f_fitting_missed) H → va_S (fun q : Nat => s.heap.size ≤ q) s.heap H locs → lv_has ls 2 [] → G H locs 0 0 (F0 m 19 ls []) := by
    intro  hv H locs ls hP hS hl
    rw [eG]
    unfold xcCL_sum_19 at hv
    subst hv
    obtain ⟨sa_1, hsa_1⟩ := hZ.2.1 (RCL, 173, "no such round") (List.mem_of_getElem? (i := 11) rfl)
    exact xt_throw hx hb hl9 hown (hB _ bw280) (hB _ bw57) hsa_1 (hx_IndexOutOfBoundsException_149 hB hZ) hS (hl.1.trans hml.symm) dCL_sum_19 dCL_sum_22 dCL_sum_23 dCL_sum_25 dCL_sum_28 hnoex (by decide +kernel) (Nat.le_of_ble_eq_true rfl) (Nat.le_of_ble_eq_true rfl) (Nat.le_of_ble_eq_true rfl) (Nat.le_of_ble_eq_true rfl) (Nat.le_of_ble_eq_true rfl) (Nat.le_of_ble_eq_true rfl) hlocks
  rw [eG] at j19
  unfold wxCL_sum at hw
  have hv := hw
  rw [eG]
  refine lv_aload_n hx hb dCL_sum_0 rfl (lv_at hl 0 rfl) ?_
  rcases hv with hv | hv
  rotate_left
  · refine xt_V (As := []) (rest := []) ⟨hx, hb, hml, hown, hB⟩ (mtxCL_checkPalette l hl9 dC dI q_this q_palette r_samples r_held r_shades r_boxes r_pools r_offer q_fitting r_carry r_palette_levels s.heap.size f_width f_height f_palette_size hv) (cwV 0 hB (gx_gV bw523 bw524 bw19 bw44 bw525) rfl rfl rfl (by decide +kernel) ⟨(Nat.le_of_ble_eq_true rfl), (Nat.le_of_ble_eq_true rfl)⟩) (gx_rpreV (ci := 7) (hP.sub (ws' := (wdCL_checkPalette q_this q_palette r_samples r_held r_shades r_boxes r_pools r_offer q_fitting r_carry r_palette_levels f_width f_height f_palette_size)) [0, 1] rfl) (hK.sub (tys' := []) [] rfl) hZ hS hA rfl rfl) rfl rfl hl.1 rfl (lv_room (Nat.le_of_ble_eq_true rfl)) dCL_sum_1 ⟨(Nat.le_of_ble_eq_true rfl), (Nat.le_of_ble_eq_true rfl)⟩ (fun q9 ce H locs hz hk hce hcv hcl hlo => ?_)
    exact xt_out hnoex hlocks hce hcv hcl (xt_S hS hz hk hlo hA) (Nat.le_of_ble_eq_true rfl) (Nat.le_of_ble_eq_true rfl)
  refine gx_rv (va_runV (As := []) (rest := []) ⟨hx, hb, hml, hown, hB⟩ (metCL_checkPalette l dC dI q_this q_palette r_samples r_held r_shades r_boxes r_pools r_offer q_fitting r_carry r_palette_levels s.heap.size f_width f_height f_palette_size hv) (cwV 0 hB (gx_gV bw523 bw524 bw19 bw44 bw525) rfl rfl rfl (by decide +kernel) ⟨(Nat.le_of_ble_eq_true rfl), (Nat.le_of_ble_eq_true rfl)⟩) (gx_rpreV (ci := 7) (hP.sub (ws' := (wdCL_checkPalette q_this q_palette r_samples r_held r_shades r_boxes r_pools r_offer q_fitting r_carry r_palette_levels f_width f_height f_palette_size)) [0, 1] rfl) (hK.sub (tys' := []) [] rfl) hZ hS hA rfl rfl) rfl rfl hl.1 rfl (lv_room (Nat.le_of_ble_eq_true rfl)) dCL_sum_1 ⟨(Nat.le_of_ble_eq_true rfl), (Nat.le_of_ble_eq_true rfl)⟩) hP hS hA (fun H locs hv hP hS => ?_)
  refine lv_iload_n hx hb dCL_sum_4 rfl (lv_at hl 1 rfl) ?_
  refine lv_if_lt (tgt := 19) hx hb dCL_sum_5 (by decide) (fun c_3 => ?_) (fun c_3 => ?_)
  · have hv := hv.1 c_3
    exact j19  hv _ _ _ hP hS (lv_sub hl [] rfl)
  · have hv := hv.2 c_3
    refine lv_iload_n hx hb dCL_sum_8 rfl (lv_at hl 1 rfl) ?_
    refine lv_aload_n hx hb dCL_sum_9 rfl (lv_at hl 0 rfl) ?_
    refine va_get (D := (dC, dI)) (ci := 7) (v := .ref q_fitting) (C := RCL) (T := TCL) (N := 11) hx hb hB hiCL hown hK hP 0 rfl rfl 9 (by decide) hL67 (fun _ h9 => h9) rfl dCL_sum_10 ?_
    refine va_get (D := (dC, dI)) (ci := 2) (v := .int f_fitting_rounds) (C := RFi) (T := TFi) (N := 5) hx hb hB hiFi hown hK hP 2 rfl rfl 4 (by decide) hL170 (fun _ h9 => h9) rfl dCL_sum_13 ?_
    refine lv_icmp_le (tgt := 29) hx hb dCL_sum_16 (by decide) (fun c_4 => ?_) (fun c_4 => ?_)
    · have hv := hv.1 c_4
      exact hv.elim
    · have hv := hv.2 c_4
      exact j19  hv _ _ _ hP hS (lv_sub hl [] rfl)
set_option maxHeartbeats 4000000 in
set_option maxRecDepth 100000 in
theorem mtxCL_dither (l : Launch) (hl9 : l.stackTraces = false) (dC : Nat → ClassId) (dI : Nat → Nat → Nat) (q_this q_samples q_held q_shades q_shades_rank q_palette q_palette_levels q_fitting q_fitting_taken q_carry q_carry_ahead q_carry_below q_carry_wish r_boxes r_pools r_offer r_shades_tint r_shades_many r_shades_keys r_fitting_missed r_fitting_takers r_fitting_keys : Nat) (c_samples c_held c_shades_rank c_palette_levels c_fitting_taken c_carry_ahead c_carry_below c_carry_wish : ClassId) (n_samples n_held n_shades_rank n_palette_levels n_fitting_taken n_carry_ahead n_carry_below n_carry_wish : Nat) (sz : Nat) (f_width : Int32) (f_height : Int32) (f_samples : Nat → Int32) (f_held : Nat → Int32) (f_shades_size : Int32) (f_shades_stale : Int32) (f_shades_rank : Nat → Int32) (f_palette_size : Int32) (f_palette_levels : Nat → Int32) (f_fitting_rounds : Int32) (f_fitting_taken : Nat → Int32) (f_carry_ahead : Nat → Int32) (f_carry_below : Nat → Int32) (f_carry_wish : Nat → Int32) (x1 : Int32) {E : String} (hw : wxCL_dither n_samples n_held n_shades_rank n_palette_levels n_fitting_taken n_carry_ahead n_carry_below n_carry_wish f_width f_height f_samples f_held f_shades_size f_shades_stale f_shades_rank f_palette_size f_palette_levels f_fitting_rounds f_fitting_taken f_carry_ahead f_carry_below f_carry_wish x1 E) : xt_Met l yCL_dither (.code yCL_dither bCL_dither 2 (some .int) :: BIG) ({ frames := 7, cells := 1, slots := 6, locals := 120 }) (va_Pc [.ref q_this, .int x1] (gx_rpre (dC, dI) vwCl (wdCL_dither q_this q_samples q_held q_shades q_shades_rank q_palette q_palette_levels q_fitting q_fitting_taken q_carry q_carry_ahead q_carry_below q_carry_wish r_boxes r_pools r_offer r_shades_tint r_shades_many r_shades_keys r_fitting_missed r_fitting_takers r_fitting_keys c_samples c_held c_shades_rank c_palette_levels c_fitting_taken c_carry_ahead c_carry_below c_carry_wish n_samples n_held n_shades_rank n_palette_levels n_fitting_taken n_carry_ahead n_carry_below n_carry_wish f_width f_height f_samples f_held f_shades_size f_shades_stale f_shades_rank f_palette_size f_palette_levels f_fitting_rounds f_fitting_taken f_carry_ahead f_carry_below f_carry_wish) [(c_samples, .int), (c_held, .int), (c_shades_rank, .int), (c_palette_levels, .int), (c_fitting_taken, .int), (c_carry_ahead, .int), (c_carry_below, .int), (c_carry_wish, .int)] sz)) E := by
  refine xt_ofW (cc := bCL_dither) (maxL := 2) (ret := (some .int)) (by decide) rfl ?_
  intro p e s m args below meth c s₁ B hml hnoex hv
  obtain ⟨rfl, hsz, hP, hK, hZ⟩ := hv
  have hx := B.exec
  have hb := B.bytes
  have hts := atoms_spec (ws := (.code yCL_dither bCL_dither 2 (some .int) :: BIG)) B.pre
  have hB : ∀ w ∈ BIG, w.before _ s = true := fun w h => hts w (List.mem_cons_of_mem _ h)
  have hown : s.vm.findClass RCL = some m.cls := findClass_of_methodNamed B.named
  have hlocks := B.notSynchronized
  subst hsz
  have hA : ∀ q : Nat, s.heap.size ≤ q → (fun q : Nat => s.heap.size ≤ q) q := fun _ h => h
  have hS : va_S (fun q : Nat => s.heap.size ≤ q) s.heap s.heap [] := va_S.rf
  have hl := lv_entry ([.ref q_this, .int x1]) (n := 2) (Nat.le_of_ble_eq_true rfl)
  rw [lg_entry_eq]
  generalize (lg_sl ([.ref q_this, .int x1]) ++ List.replicate (2 - (lg_sl ([.ref q_this, .int x1])).length) Slot.unset).toArray = ls at hl ⊢
  have hl : lv_has ls 2 [(0, .ref q_this), (1, .int x1)] := hl
  refine gx_abs (fun G eG => ?_)
  have j13 : xcCL_dither_13 n_samples n_held n_shades_rank n_palette_levels n_fitting_taken n_carry_ahead n_carry_below n_carry_wish f_width f_height f_samples f_shades_size f_shades_stale f_shades_rank f_palette_size f_palette_levels f_fitting_rounds f_fitting_taken x1 E f_held f_carry_ahead f_carry_below f_carry_wish → ∀ (H : Heap) (locs : List Loc) (ls : Array Slot), va_P (dC, dI) vwCl (wdCL_dither q_this q_samples q_held q_shades q_shades_rank q_palette q_palette_levels q_fitting q_fitting_taken q_carry q_carry_ahead q_carry_below q_carry_wish r_boxes r_pools r_offer r_shades_tint r_shades_many r_shades_keys r_fitting_missed r_fitting_takers r_fitting_keys c_samples c_held c_shades_rank c_palette_levels c_fitting_taken c_carry_ahead c_carry_below c_carry_wish n_samples n_held n_shades_rank n_palette_levels n_fitting_taken n_carry_ahead n_carry_below n_carry_wish f_width f_height f_samples f_held f_shades_size f_shades_stale f_shades_rank f_palette_size f_palette_levels f_fitting_rounds f_fitting_taken f_carry_ahead f_carry_below f_carry_wish) H → va_S (fun q : Nat => s.heap.size ≤ q) s.heap H locs → lv_has ls 2 [] → G H locs 0 0 (F0 m 13 ls []) := by
    intro  hv H locs ls hP hS hl
    rw [eG]
    unfold xcCL_dither_13 at hv
    subst hv
    obtain ⟨sa_1, hsa_1⟩ := hZ.2.1 (RCL, 179, "no such kind") (List.mem_of_getElem? (i := 12) rfl)
    exact xt_throw hx hb hl9 hown (hB _ bw333) (hB _ bw58) hsa_1 (hx_IllegalArgumentException_101 hB hZ) hS (hl.1.trans hml.symm) dCL_dither_13 dCL_dither_16 dCL_dither_17 dCL_dither_19 dCL_dither_22 hnoex (by decide +kernel) (Nat.le_of_ble_eq_true rfl) (Nat.le_of_ble_eq_true rfl) (Nat.le_of_ble_eq_true rfl) (Nat.le_of_ble_eq_true rfl) (Nat.le_of_ble_eq_true rfl) (Nat.le_of_ble_eq_true rfl) hlocks
  rw [eG] at j13
  unfold wxCL_dither at hw
  have hv := hw
  rw [eG]
  refine lv_aload_n hx hb dCL_dither_0 rfl (lv_at hl 0 rfl) ?_
  rcases hv with hv | hv
  rotate_left
  · refine xt_V (As := []) (rest := []) ⟨hx, hb, hml, hown, hB⟩ (mtxCL_checkPalette l hl9 dC dI q_this q_palette q_samples q_held q_shades r_boxes r_pools r_offer q_fitting q_carry q_palette_levels s.heap.size f_width f_height f_palette_size hv) (cwV 0 hB (gx_gV bw523 bw524 bw19 bw44 bw525) rfl rfl rfl (by decide +kernel) ⟨(Nat.le_of_ble_eq_true rfl), (Nat.le_of_ble_eq_true rfl)⟩) (gx_rpreV (ci := 7) (hP.sub (ws' := (wdCL_checkPalette q_this q_palette q_samples q_held q_shades r_boxes r_pools r_offer q_fitting q_carry q_palette_levels f_width f_height f_palette_size)) [0, 5] rfl) (hK.sub (tys' := []) [] rfl) hZ hS hA rfl rfl) rfl rfl hl.1 rfl (lv_room (Nat.le_of_ble_eq_true rfl)) dCL_dither_1 ⟨(Nat.le_of_ble_eq_true rfl), (Nat.le_of_ble_eq_true rfl)⟩ (fun q9 ce H locs hz hk hce hcv hcl hlo => ?_)
    exact xt_out hnoex hlocks hce hcv hcl (xt_S hS hz hk hlo hA) (Nat.le_of_ble_eq_true rfl) (Nat.le_of_ble_eq_true rfl)
  refine gx_rv (va_runV (As := []) (rest := []) ⟨hx, hb, hml, hown, hB⟩ (metCL_checkPalette l dC dI q_this q_palette q_samples q_held q_shades r_boxes r_pools r_offer q_fitting q_carry q_palette_levels s.heap.size f_width f_height f_palette_size hv) (cwV 0 hB (gx_gV bw523 bw524 bw19 bw44 bw525) rfl rfl rfl (by decide +kernel) ⟨(Nat.le_of_ble_eq_true rfl), (Nat.le_of_ble_eq_true rfl)⟩) (gx_rpreV (ci := 7) (hP.sub (ws' := (wdCL_checkPalette q_this q_palette q_samples q_held q_shades r_boxes r_pools r_offer q_fitting q_carry q_palette_levels f_width f_height f_palette_size)) [0, 5] rfl) (hK.sub (tys' := []) [] rfl) hZ hS hA rfl rfl) rfl rfl hl.1 rfl (lv_room (Nat.le_of_ble_eq_true rfl)) dCL_dither_1 ⟨(Nat.le_of_ble_eq_true rfl), (Nat.le_of_ble_eq_true rfl)⟩) hP hS hA (fun H locs hv hP hS => ?_)
  refine lv_iload_n hx hb dCL_dither_4 rfl (lv_at hl 1 rfl) ?_
  refine lv_if_lt (tgt := 13) hx hb dCL_dither_5 (by decide) (fun c_3 => ?_) (fun c_3 => ?_)
  · have hv := hv.1 c_3
    exact j13  hv _ _ _ hP hS (lv_sub hl [] rfl)
  · have hv := hv.2 c_3
    refine lv_iload_n hx hb dCL_dither_8 rfl (lv_at hl 1 rfl) ?_
    refine lv_iconst (v := 2) hx hb dCL_dither_9 (by decide) ?_
    refine lv_icmp_le (tgt := 23) hx hb dCL_dither_10 (by decide) (fun c_4 => ?_) (fun c_4 => ?_)
    · have hv := hv.1 c_4
      exact hv.elim
    · have hv := hv.2 c_4
      exact j13  hv _ _ _ hP hS (lv_sub hl [] rfl)
set_option maxHeartbeats 4000000 in
set_option maxRecDepth 100000 in
theorem mtxCL_count (l : Launch) (hl9 : l.stackTraces = false) (dC : Nat → ClassId) (dI : Nat → Nat → Nat) (q_this q_held q_palette r_samples r_shades r_boxes r_pools r_offer r_fitting r_carry r_palette_levels : Nat) (c_held : ClassId) (n_held : Nat) (sz : Nat) (f_width : Int32) (f_height : Int32) (f_held : Nat → Int32) (f_palette_size : Int32) (x1 : Int32) {E : String} (hw : wxCL_count n_held f_width f_height f_held f_palette_size x1 E) : xt_Met l yCL_count (.code yCL_count bCL_count 4 (some .int) :: BIG) ({ frames := 7, cells := 1, slots := 6, locals := 121 }) (va_Pc [.ref q_this, .int x1] (gx_rpre (dC, dI) vwCl (wdCL_count q_this q_held q_palette r_samples r_shades r_boxes r_pools r_offer r_fitting r_carry r_palette_levels c_held n_held f_width f_height f_held f_palette_size) [(c_held, .int)] sz)) E := by
  refine xt_ofW (cc := bCL_count) (maxL := 4) (ret := (some .int)) (by decide) rfl ?_
  intro p e s m args below meth c s₁ B hml hnoex hv
  obtain ⟨rfl, hsz, hP, hK, hZ⟩ := hv
  have hx := B.exec
  have hb := B.bytes
  have hts := atoms_spec (ws := (.code yCL_count bCL_count 4 (some .int) :: BIG)) B.pre
  have hB : ∀ w ∈ BIG, w.before _ s = true := fun w h => hts w (List.mem_cons_of_mem _ h)
  have hown : s.vm.findClass RCL = some m.cls := findClass_of_methodNamed B.named
  have hlocks := B.notSynchronized
  subst hsz
  have hA : ∀ q : Nat, s.heap.size ≤ q → (fun q : Nat => s.heap.size ≤ q) q := fun _ h => h
  have hS : va_S (fun q : Nat => s.heap.size ≤ q) s.heap s.heap [] := va_S.rf
  have hl := lv_entry ([.ref q_this, .int x1]) (n := 4) (Nat.le_of_ble_eq_true rfl)
  rw [lg_entry_eq]
  generalize (lg_sl ([.ref q_this, .int x1]) ++ List.replicate (4 - (lg_sl ([.ref q_this, .int x1])).length) Slot.unset).toArray = ls at hl ⊢
  have hl : lv_has ls 4 [(0, .ref q_this), (1, .int x1)] := hl
  unfold wxCL_count at hw
  have hv := hw
  refine lv_aload_n hx hb dCL_count_0 rfl (lv_at hl 0 rfl) ?_
  rcases hv with hv | hv
  rotate_left
  · refine xt_V (As := []) (rest := []) ⟨hx, hb, hml, hown, hB⟩ (mtxCL_checkPalette l hl9 dC dI q_this q_palette r_samples q_held r_shades r_boxes r_pools r_offer r_fitting r_carry r_palette_levels s.heap.size f_width f_height f_palette_size hv) (cwV 0 hB (gx_gV bw523 bw524 bw19 bw44 bw525) rfl rfl rfl (by decide +kernel) ⟨(Nat.le_of_ble_eq_true rfl), (Nat.le_of_ble_eq_true rfl)⟩) (gx_rpreV (ci := 7) (hP.sub (ws' := (wdCL_checkPalette q_this q_palette r_samples q_held r_shades r_boxes r_pools r_offer r_fitting r_carry r_palette_levels f_width f_height f_palette_size)) [0, 2] rfl) (hK.sub (tys' := []) [] rfl) hZ hS hA rfl rfl) rfl rfl hl.1 rfl (lv_room (Nat.le_of_ble_eq_true rfl)) dCL_count_1 ⟨(Nat.le_of_ble_eq_true rfl), (Nat.le_of_ble_eq_true rfl)⟩ (fun q9 ce H locs hz hk hce hcv hcl hlo => ?_)
    exact xt_out hnoex hlocks hce hcv hcl (xt_S hS hz hk hlo hA) (Nat.le_of_ble_eq_true rfl) (Nat.le_of_ble_eq_true rfl)
  refine gx_rv (va_runV (As := []) (rest := []) ⟨hx, hb, hml, hown, hB⟩ (metCL_checkPalette l dC dI q_this q_palette r_samples q_held r_shades r_boxes r_pools r_offer r_fitting r_carry r_palette_levels s.heap.size f_width f_height f_palette_size hv) (cwV 0 hB (gx_gV bw523 bw524 bw19 bw44 bw525) rfl rfl rfl (by decide +kernel) ⟨(Nat.le_of_ble_eq_true rfl), (Nat.le_of_ble_eq_true rfl)⟩) (gx_rpreV (ci := 7) (hP.sub (ws' := (wdCL_checkPalette q_this q_palette r_samples q_held r_shades r_boxes r_pools r_offer r_fitting r_carry r_palette_levels f_width f_height f_palette_size)) [0, 2] rfl) (hK.sub (tys' := []) [] rfl) hZ hS hA rfl rfl) rfl rfl hl.1 rfl (lv_room (Nat.le_of_ble_eq_true rfl)) dCL_count_1 ⟨(Nat.le_of_ble_eq_true rfl), (Nat.le_of_ble_eq_true rfl)⟩) hP hS hA (fun H locs hv hP hS => ?_)
  refine lv_aload_n hx hb dCL_count_4 rfl (lv_at hl 0 rfl) ?_
  refine lv_iload_n hx hb dCL_count_5 rfl (lv_at hl 1 rfl) ?_
  rcases hv with hv | hv
  rotate_left
  · refine xt_V (As := [.int x1]) (rest := []) ⟨hx, hb, hml, hown, hB⟩ (mtxCL_checkPaletteColour l hl9 dC dI q_this q_palette r_samples q_held r_shades r_boxes r_pools r_offer r_fitting r_carry r_palette_levels H.size f_width f_height f_palette_size x1 hv) (cwV 1 hB (gx_gV bw539 bw540 bw20 bw44 bw541) rfl rfl rfl (by decide +kernel) ⟨(Nat.le_of_ble_eq_true rfl), (Nat.le_of_ble_eq_true rfl)⟩) (gx_rpreV (ci := 7) (hP.sub (ws' := (wdCL_checkPaletteColour q_this q_palette r_samples q_held r_shades r_boxes r_pools r_offer r_fitting r_carry r_palette_levels f_width f_height f_palette_size)) [0, 2] rfl) (hK.sub (tys' := []) [] rfl) hZ hS hA rfl rfl) rfl rfl hl.1 rfl (lv_room (Nat.le_of_ble_eq_true rfl)) dCL_count_6 ⟨(Nat.le_of_ble_eq_true rfl), (Nat.le_of_ble_eq_true rfl)⟩ (fun q9 ce H locs hz hk hce hcv hcl hlo => ?_)
    exact xt_out hnoex hlocks hce hcv hcl (xt_S hS hz hk hlo hA) (Nat.le_of_ble_eq_true rfl) (Nat.le_of_ble_eq_true rfl)
  refine gx_rv (va_runV (As := [.int x1]) (rest := []) ⟨hx, hb, hml, hown, hB⟩ (metCL_checkPaletteColour l dC dI q_this q_palette r_samples q_held r_shades r_boxes r_pools r_offer r_fitting r_carry r_palette_levels H.size f_width f_height f_palette_size x1 hv) (cwV 1 hB (gx_gV bw539 bw540 bw20 bw44 bw541) rfl rfl rfl (by decide +kernel) ⟨(Nat.le_of_ble_eq_true rfl), (Nat.le_of_ble_eq_true rfl)⟩) (gx_rpreV (ci := 7) (hP.sub (ws' := (wdCL_checkPaletteColour q_this q_palette r_samples q_held r_shades r_boxes r_pools r_offer r_fitting r_carry r_palette_levels f_width f_height f_palette_size)) [0, 2] rfl) (hK.sub (tys' := []) [] rfl) hZ hS hA rfl rfl) rfl rfl hl.1 rfl (lv_room (Nat.le_of_ble_eq_true rfl)) dCL_count_6 ⟨(Nat.le_of_ble_eq_true rfl), (Nat.le_of_ble_eq_true rfl)⟩) hP hS hA (fun H locs hv hP hS => ?_)
  exact hv.elim
set_option maxHeartbeats 4000000 in
set_option maxRecDepth 100000 in
theorem mtxCL_exact (l : Launch) (hl9 : l.stackTraces = false) (dC : Nat → ClassId) (dI : Nat → Nat → Nat) (q_this q_samples q_held q_palette q_palette_levels r_shades r_boxes r_pools r_offer r_fitting r_carry : Nat) (c_samples c_held c_palette_levels : ClassId) (n_samples n_held n_palette_levels : Nat) (sz : Nat) (f_width : Int32) (f_height : Int32) (f_samples : Nat → Int32) (f_held : Nat → Int32) (f_palette_size : Int32) (f_palette_levels : Nat → Int32) {E : String} (hw : wxCL_exact n_samples n_held n_palette_levels f_width f_height f_samples f_held f_palette_size f_palette_levels E) : xt_Met l yCL_exact (.code yCL_exact bCL_exact 2 (some .boolean) :: BIG) ({ frames := 7, cells := 1, slots := 6, locals := 120 }) (va_Pc [.ref q_this] (gx_rpre (dC, dI) vwCl (wdCL_exact q_this q_samples q_held q_palette q_palette_levels r_shades r_boxes r_pools r_offer r_fitting r_carry c_samples c_held c_palette_levels n_samples n_held n_palette_levels f_width f_height f_samples f_held f_palette_size f_palette_levels) [(c_samples, .int), (c_held, .int), (c_palette_levels, .int)] sz)) E := by
  refine xt_ofW (cc := bCL_exact) (maxL := 2) (ret := (some .boolean)) (by decide) rfl ?_
  intro p e s m args below meth c s₁ B hml hnoex hv
  obtain ⟨rfl, hsz, hP, hK, hZ⟩ := hv
  have hx := B.exec
  have hb := B.bytes
  have hts := atoms_spec (ws := (.code yCL_exact bCL_exact 2 (some .boolean) :: BIG)) B.pre
  have hB : ∀ w ∈ BIG, w.before _ s = true := fun w h => hts w (List.mem_cons_of_mem _ h)
  have hown : s.vm.findClass RCL = some m.cls := findClass_of_methodNamed B.named
  have hlocks := B.notSynchronized
  subst hsz
  have hA : ∀ q : Nat, s.heap.size ≤ q → (fun q : Nat => s.heap.size ≤ q) q := fun _ h => h
  have hS : va_S (fun q : Nat => s.heap.size ≤ q) s.heap s.heap [] := va_S.rf
  have hl := lv_entry ([.ref q_this]) (n := 2) (Nat.le_of_ble_eq_true rfl)
  rw [lg_entry_eq]
  generalize (lg_sl ([.ref q_this]) ++ List.replicate (2 - (lg_sl ([.ref q_this])).length) Slot.unset).toArray = ls at hl ⊢
  have hl : lv_has ls 2 [(0, .ref q_this)] := hl
  unfold wxCL_exact at hw
  have hv := hw
  refine lv_aload_n hx hb dCL_exact_0 rfl (lv_at hl 0 rfl) ?_
  rcases hv with hv | hv
  rotate_left
  · refine xt_V (As := []) (rest := []) ⟨hx, hb, hml, hown, hB⟩ (mtxCL_checkPalette l hl9 dC dI q_this q_palette q_samples q_held r_shades r_boxes r_pools r_offer r_fitting r_carry q_palette_levels s.heap.size f_width f_height f_palette_size hv) (cwV 0 hB (gx_gV bw523 bw524 bw19 bw44 bw525) rfl rfl rfl (by decide +kernel) ⟨(Nat.le_of_ble_eq_true rfl), (Nat.le_of_ble_eq_true rfl)⟩) (gx_rpreV (ci := 7) (hP.sub (ws' := (wdCL_checkPalette q_this q_palette q_samples q_held r_shades r_boxes r_pools r_offer r_fitting r_carry q_palette_levels f_width f_height f_palette_size)) [0, 3] rfl) (hK.sub (tys' := []) [] rfl) hZ hS hA rfl rfl) rfl rfl hl.1 rfl (lv_room (Nat.le_of_ble_eq_true rfl)) dCL_exact_1 ⟨(Nat.le_of_ble_eq_true rfl), (Nat.le_of_ble_eq_true rfl)⟩ (fun q9 ce H locs hz hk hce hcv hcl hlo => ?_)
    exact xt_out hnoex hlocks hce hcv hcl (xt_S hS hz hk hlo hA) (Nat.le_of_ble_eq_true rfl) (Nat.le_of_ble_eq_true rfl)
  refine gx_rv (va_runV (As := []) (rest := []) ⟨hx, hb, hml, hown, hB⟩ (metCL_checkPalette l dC dI q_this q_palette q_samples q_held r_shades r_boxes r_pools r_offer r_fitting r_carry q_palette_levels s.heap.size f_width f_height f_palette_size hv) (cwV 0 hB (gx_gV bw523 bw524 bw19 bw44 bw525) rfl rfl rfl (by decide +kernel) ⟨(Nat.le_of_ble_eq_true rfl), (Nat.le_of_ble_eq_true rfl)⟩) (gx_rpreV (ci := 7) (hP.sub (ws' := (wdCL_checkPalette q_this q_palette q_samples q_held r_shades r_boxes r_pools r_offer r_fitting r_carry q_palette_levels f_width f_height f_palette_size)) [0, 3] rfl) (hK.sub (tys' := []) [] rfl) hZ hS hA rfl rfl) rfl rfl hl.1 rfl (lv_room (Nat.le_of_ble_eq_true rfl)) dCL_exact_1 ⟨(Nat.le_of_ble_eq_true rfl), (Nat.le_of_ble_eq_true rfl)⟩) hP hS hA (fun H locs hv hP hS => ?_)
  exact hv.elim
