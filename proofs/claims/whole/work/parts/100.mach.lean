abbrev wdCL_levelOf  : va_W := []
set_option maxHeartbeats 4000000 in
set_option maxRecDepth 100000 in
theorem metCL_levelOf (l : Launch) (dC : Nat → ClassId) (dI : Nat → Nat → Nat) (sz : Nat) (x0 : Int32) (x1 : Int32) {post : Int32 → Prop} (hw : wpCL_levelOf x0 x1 post) : Met l yCL_levelOf (.code yCL_levelOf bCL_levelOf 2 (some .int) :: BIG) ({ frames := 0, cells := 0, slots := 0, locals := 0 }) (va_Pc [.int x0, .int x1] (gx_rpre (dC, dI) vwCl wdCL_levelOf [] sz)) (va_Qi (fun r (u : Unit) => post r ) (fun _ _ => True) (fun q : Nat => sz ≤ q)) 0 0 (fun q : Nat => sz ≤ q) := by
  refine Met.ofW (cc := bCL_levelOf) (maxL := 2) (ret := (some .int)) (by decide) rfl ?_
  intro p e s m args below meth c s₁ B hml hv
  obtain ⟨rfl, hsz, hP, hK, hZ⟩ := hv
  have hx := B.exec
  have hb := B.bytes
  have hr := B.returns
  have hts := atoms_spec (ws := (.code yCL_levelOf bCL_levelOf 2 (some .int) :: BIG)) B.pre
  have hB : ∀ w ∈ BIG, w.before _ s = true := fun w h => hts w (List.mem_cons_of_mem _ h)
  have hown : s.vm.findClass RCL = some m.cls := findClass_of_methodNamed B.named
  have hlocks := B.notSynchronized
  subst hsz
  have hA : ∀ q : Nat, s.heap.size ≤ q → (fun q : Nat => s.heap.size ≤ q) q := fun _ h => h
  have hS : va_S (fun q : Nat => s.heap.size ≤ q) s.heap s.heap [] := va_S.rf
  have hl := lv_entry ([.int x0, .int x1]) (n := 2) (Nat.le_of_ble_eq_true rfl)
  rw [lg_entry_eq]
  generalize (lg_sl ([.int x0, .int x1]) ++ List.replicate (2 - (lg_sl ([.int x0, .int x1])).length) Slot.unset).toArray = ls at hl ⊢
  have hl : lv_has ls 2 [(0, .int x0), (1, .int x1)] := hl
  unfold wpCL_levelOf at hw
  have hv := hw
  refine lv_iload_n hx hb dCL_levelOf_0 rfl (lv_at hl 0 rfl) ?_
  refine lv_bipush (v := 24) hx hb dCL_levelOf_1 (by decide) ?_
  refine lv_bipush (v := 8) hx hb dCL_levelOf_3 (by decide) ?_
  refine lv_iload_n hx hb dCL_levelOf_5 rfl (lv_at hl 1 rfl) ?_
  refine lv_imul hx hb dCL_levelOf_6 ?_
  refine lv_isub hx hb dCL_levelOf_7 ?_
  refine lv_iushr hx hb dCL_levelOf_8 rfl ?_
  refine lv_sipush (v := 255) hx hb dCL_levelOf_9 (by decide) ?_
  refine lv_iand hx hb dCL_levelOf_12 ?_
  exact W.iret (v := ((x0.toUInt32 >>> ((24 - (8 * x1)).toUInt32 &&& Int32.toUInt32 31)).toInt32) &&& 255) hx hb hr (fun t ht hW => ⟨⟨_, (), rfl, hv, trivial⟩, hS.F ht⟩) hS.2.2 dCL_levelOf_13
abbrev wdBx_spreadOf (q_this q_row q_shades q_shades_tint r_start r_end r_weight r_spread r_widest r_shades_many r_shades_rank r_shades_keys : Nat) (c_row c_shades_tint : ClassId) (n_row n_shades_tint : Nat) (f_size : Int32) (f_row : Nat → Int32) (f_shades_size : Int32) (f_shades_stale : Int32) (f_shades_tint : Nat → Int32) : va_W := [(q_this, .inr (0, [.ref q_row, .ref r_start, .ref r_end, .ref r_weight, .ref r_spread, .ref r_widest, .int f_size])), (q_row, .inl (c_row, n_row, .inl f_row)), (q_shades, .inr (6, [.ref q_shades_tint, .ref r_shades_many, .ref r_shades_rank, .ref r_shades_keys, .int f_shades_size, .int f_shades_stale])), (q_shades_tint, .inl (c_shades_tint, n_shades_tint, .inl f_shades_tint))]
set_option maxHeartbeats 4000000 in
set_option maxRecDepth 100000 in
theorem metBx_spreadOf (l : Launch) (dC : Nat → ClassId) (dI : Nat → Nat → Nat) (q_this q_row q_shades q_shades_tint r_start r_end r_weight r_spread r_widest r_shades_many r_shades_rank r_shades_keys : Nat) (c_row c_shades_tint : ClassId) (n_row n_shades_tint : Nat) (sz : Nat) (f_size : Int32) (f_row : Nat → Int32) (f_shades_size : Int32) (f_shades_stale : Int32) (f_shades_tint : Nat → Int32) (x1 : Int32) (x2 : Int32) (x3 : Int32) {post : Int32 → Prop} (hw : wpBx_spreadOf n_row n_shades_tint f_size f_row f_shades_size f_shades_stale f_shades_tint x1 x2 x3 post) : Met l yBx_spreadOf (.code yBx_spreadOf bBx_spreadOf 9 (some .int) :: BIG) ({ frames := 1, cells := 0, slots := 0, locals := 21 }) (va_Pc [.ref q_this, .int x1, .int x2, .int x3, .ref q_shades] (gx_rpre (dC, dI) vwCl (wdBx_spreadOf q_this q_row q_shades q_shades_tint r_start r_end r_weight r_spread r_widest r_shades_many r_shades_rank r_shades_keys c_row c_shades_tint n_row n_shades_tint f_size f_row f_shades_size f_shades_stale f_shades_tint) [(c_row, .int), (c_shades_tint, .int)] sz)) (va_Qi (fun r (u : Unit) => post r ) (fun _ _ => True) (fun q : Nat => sz ≤ q)) 0 0 (fun q : Nat => sz ≤ q) := by
  refine Met.ofW (cc := bBx_spreadOf) (maxL := 9) (ret := (some .int)) (by decide) rfl ?_
  intro p e s m args below meth c s₁ B hml hv
  obtain ⟨rfl, hsz, hP, hK, hZ⟩ := hv
  have hx := B.exec
  have hb := B.bytes
  have hr := B.returns
  have hts := atoms_spec (ws := (.code yBx_spreadOf bBx_spreadOf 9 (some .int) :: BIG)) B.pre
  have hB : ∀ w ∈ BIG, w.before _ s = true := fun w h => hts w (List.mem_cons_of_mem _ h)
  have hown : s.vm.findClass RBx = some m.cls := findClass_of_methodNamed B.named
  have hlocks := B.notSynchronized
  subst hsz
  have hA : ∀ q : Nat, s.heap.size ≤ q → (fun q : Nat => s.heap.size ≤ q) q := fun _ h => h
  have hS : va_S (fun q : Nat => s.heap.size ≤ q) s.heap s.heap [] := va_S.rf
  have hl := lv_entry ([.ref q_this, .int x1, .int x2, .int x3, .ref q_shades]) (n := 9) (Nat.le_of_ble_eq_true rfl)
  rw [lg_entry_eq]
  generalize (lg_sl ([.ref q_this, .int x1, .int x2, .int x3, .ref q_shades]) ++ List.replicate (9 - (lg_sl ([.ref q_this, .int x1, .int x2, .int x3, .ref q_shades])).length) Slot.unset).toArray = ls at hl ⊢
  have hl : lv_has ls 9 [(0, .ref q_this), (1, .int x1), (2, .int x2), (3, .int x3), (4, .ref q_shades)] := hl
  have hL27 := (hB _ bw117)
  have hL58 := (hB _ bw86)
  refine gx_abs (fun G eG => ?_)
  obtain ⟨K11, eK11⟩ : ∃ K : Int32 → Int32 → Int32 → Prop, K = fun v5 v6 v7 => ∀ (H : Heap) (locs : List Loc) (ls : Array Slot), va_P (dC, dI) vwCl (wdBx_spreadOf q_this q_row q_shades q_shades_tint r_start r_end r_weight r_spread r_widest r_shades_many r_shades_rank r_shades_keys c_row c_shades_tint n_row n_shades_tint f_size f_row f_shades_size f_shades_stale f_shades_tint) H → va_S (fun q : Nat => s.heap.size ≤ q) s.heap H locs → lv_has ls 9 [(0, .ref q_this), (1, .int x1), (3, .int x3), (4, .ref q_shades), (5, .int v5), (6, .int v6), (7, .int v7)] → G H locs 0 0 (F0 m 11 ls []) := ⟨_, rfl⟩
  unfold wpBx_spreadOf at hw
  have hv := hw K11
  have hv := hv (by
    intro v5 v6 v7 hv
    rw [eK11]
    intro H locs ls hP hS hl
    rw [eG]
    unfold vcBx_spreadOf_11 at hv
    refine lv_iload hx hb dBx_spreadOf_11 (lv_at hl 6 rfl) ?_
    refine lv_iload_n hx hb dBx_spreadOf_13 rfl (lv_at hl 2 rfl) ?_
    refine lv_icmp_ge (tgt := 60) hx hb dBx_spreadOf_14 (by decide) (fun c_1 => ?_) (fun c_1 => ?_)
    · have hv := hv.1 c_1
      refine lv_iload hx hb dBx_spreadOf_60 (lv_at hl 5 rfl) ?_
      refine lv_iload hx hb dBx_spreadOf_62 (lv_at hl 4 rfl) ?_
      refine lv_isub hx hb dBx_spreadOf_64 ?_
      exact W.iret (v := v6 - v5) hx hb hr (fun t ht hW => ⟨⟨_, (), rfl, hv, trivial⟩, hS.F ht⟩) hS.2.2 dBx_spreadOf_65
    · have hv := hv.2 c_1
      refine lv_aload hx hb dBx_spreadOf_17 (lv_at hl 3 rfl) ?_
      refine va_get (D := (dC, dI)) (ci := 6) (v := .ref q_shades_tint) (C := RSh) (T := TSh) (N := 6) hx hb hB hiSh hown hK hP 2 rfl rfl 0 (by decide) hL58 (fun _ h9 => h9) rfl dBx_spreadOf_19 ?_
      refine lv_aload_n hx hb dBx_spreadOf_22 rfl (lv_at hl 0 rfl) ?_
      refine va_get (D := (dC, dI)) (ci := 0) (v := .ref q_row) (C := RBx) (T := TBx) (N := 7) hx hb hB hiBx hown hK hP 0 rfl rfl 0 (by decide) hL27 (fun _ h9 => h9) rfl dBx_spreadOf_23 ?_
      refine lv_iload hx hb dBx_spreadOf_26 (lv_at hl 6 rfl) ?_
      obtain ⟨h_2, hv⟩ := hv
      refine va_iald hx hb hK hP 1 0 rfl rfl h_2 dBx_spreadOf_28 ?_
      obtain ⟨h_3, hv⟩ := hv
      refine va_iald hx hb hK hP 3 1 rfl rfl h_3 dBx_spreadOf_29 ?_
      refine lv_iload_n hx hb dBx_spreadOf_30 rfl (lv_at hl 1 rfl) ?_
      refine gx_ri (va_runSN (As := [.int (f_shades_tint (f_row v7.toNatClampNeg).toNatClampNeg), .int x1]) (rest := []) ⟨hx, hb, hml, hown, hB⟩ (metCL_levelOf l dC dI H.size (f_shades_tint (f_row v7.toNatClampNeg).toNatClampNeg) x1 hv) ⟨va_cnB 2 hB (gx_gN bw364) rfl rfl rfl (hZ.1 _ (List.mem_of_getElem? (i := 13) rfl)) (hB _ bw44) (by decide +kernel) ⟨(Nat.le_of_ble_eq_true rfl), (Nat.le_of_ble_eq_true rfl)⟩, (hB _ bw363), trivial⟩ (gx_rpreS (hP.sub (ws' := wdCL_levelOf) [] rfl) (hK.sub (tys' := []) [] rfl) hZ hS hA) rfl rfl hl.1 rfl (lv_room (Nat.le_of_ble_eq_true rfl)) dBx_spreadOf_31 ⟨(Nat.le_of_ble_eq_true rfl), (Nat.le_of_ble_eq_true rfl)⟩) hP hS hA (fun r_4 H locs hv hP hS => ?_)
      refine lv_istore (lv' := [(8, .int r_4), (0, .ref q_this), (1, .int x1), (3, .int x3), (4, .ref q_shades), (5, .int v5), (6, .int v6), (7, .int v7)]) hx hb dBx_spreadOf_34 hl (by decide) rfl (fun ls hl => ?_)
      refine lv_iload hx hb dBx_spreadOf_36 (lv_at hl 5 rfl) ?_
      refine lv_iload hx hb dBx_spreadOf_38 (lv_at hl 0 rfl) ?_
      refine va_mmin hx hb (by rw [hml]; exact hl.1.symm) hown (hB _ bw408) (hB _ bw74) (hB _ bw45) (hB _ bw75) (Nat.le_of_ble_eq_true rfl) (Nat.le_of_ble_eq_true rfl) (Nat.le_of_ble_eq_true rfl) (Nat.le_of_ble_eq_true rfl) dBx_spreadOf_40 ?_
      refine lv_topi (fun v5_6 ev5_6 => ?_)
      have hv := hv v5_6 ev5_6
      refine lv_istore (lv' := [(5, .int v5_6), (8, .int r_4), (0, .ref q_this), (1, .int x1), (3, .int x3), (4, .ref q_shades), (6, .int v6), (7, .int v7)]) hx hb dBx_spreadOf_43 hl (by decide) rfl (fun ls hl => ?_)
      refine lv_iload hx hb dBx_spreadOf_45 (lv_at hl 6 rfl) ?_
      refine lv_iload hx hb dBx_spreadOf_47 (lv_at hl 1 rfl) ?_
      refine va_mmax hx hb (by rw [hml]; exact hl.1.symm) hown (hB _ bw409) (hB _ bw77) (hB _ bw45) (hB _ bw78) (Nat.le_of_ble_eq_true rfl) (Nat.le_of_ble_eq_true rfl) (Nat.le_of_ble_eq_true rfl) (Nat.le_of_ble_eq_true rfl) dBx_spreadOf_49 ?_
      refine lv_topi (fun v6_7 ev6_7 => ?_)
      have hv := hv v6_7 ev6_7
      refine lv_istore (lv' := [(6, .int v6_7), (5, .int v5_6), (8, .int r_4), (0, .ref q_this), (1, .int x1), (3, .int x3), (4, .ref q_shades), (7, .int v7)]) hx hb dBx_spreadOf_52 hl (by decide) rfl (fun ls hl => ?_)
      refine lv_iinc (v := v7 + 1) (lv' := [(7, .int (v7 + 1)), (6, .int v6_7), (5, .int v5_6), (8, .int r_4), (0, .ref q_this), (1, .int x1), (3, .int x3), (4, .ref q_shades)]) hx hb dBx_spreadOf_54 hl (k := 7) rfl rfl (by decide) rfl (fun ls hl => ?_)
      refine lv_goto (tgt := 11) hx hb dBx_spreadOf_57 (by decide) ?_
      rw [eK11, eG] at hv
      exact hv _ _ _ hP hS (lv_sub hl [4, 5, 6, 7, 2, 1, 0] rfl))
  rw [eG]
  refine lv_sipush (v := 255) hx hb dBx_spreadOf_0 (by decide) ?_
  refine lv_istore (lv' := [(5, .int 255), (0, .ref q_this), (1, .int x1), (2, .int x2), (3, .int x3), (4, .ref q_shades)]) hx hb dBx_spreadOf_3 hl (by decide) rfl (fun ls hl => ?_)
  refine lv_iconst (v := 0) hx hb dBx_spreadOf_5 (by decide) ?_
  refine lv_istore (lv' := [(6, .int 0), (5, .int 255), (0, .ref q_this), (1, .int x1), (2, .int x2), (3, .int x3), (4, .ref q_shades)]) hx hb dBx_spreadOf_6 hl (by decide) rfl (fun ls hl => ?_)
  refine lv_iload_n hx hb dBx_spreadOf_8 rfl (lv_at hl 4 rfl) ?_
  refine lv_istore (lv' := [(7, .int x2), (6, .int 0), (5, .int 255), (0, .ref q_this), (1, .int x1), (2, .int x2), (3, .int x3), (4, .ref q_shades)]) hx hb dBx_spreadOf_9 hl (by decide) rfl (fun ls hl => ?_)
  rw [eK11, eG] at hv
  exact hv _ _ _ hP hS (lv_sub hl [3, 4, 6, 7, 2, 1, 0] rfl)
abbrev wdBx_measure (q_this q_row q_start q_end q_weight q_spread q_widest q_shades q_shades_tint q_shades_many r_shades_rank r_shades_keys : Nat) (c_row c_start c_end c_weight c_spread c_widest c_shades_tint c_shades_many : ClassId) (n_row n_start n_end n_weight n_spread n_widest n_shades_tint n_shades_many : Nat) (f_size : Int32) (f_row : Nat → Int32) (f_start : Nat → Int32) (f_end : Nat → Int32) (f_weight : Nat → Int32) (f_spread : Nat → Int32) (f_widest : Nat → Int32) (f_shades_size : Int32) (f_shades_stale : Int32) (f_shades_tint : Nat → Int32) (f_shades_many : Nat → Int32) : va_W := [(q_this, .inr (0, [.ref q_row, .ref q_start, .ref q_end, .ref q_weight, .ref q_spread, .ref q_widest, .int f_size])), (q_row, .inl (c_row, n_row, .inl f_row)), (q_start, .inl (c_start, n_start, .inl f_start)), (q_end, .inl (c_end, n_end, .inl f_end)), (q_weight, .inl (c_weight, n_weight, .inl f_weight)), (q_spread, .inl (c_spread, n_spread, .inl f_spread)), (q_widest, .inl (c_widest, n_widest, .inl f_widest)), (q_shades, .inr (6, [.ref q_shades_tint, .ref q_shades_many, .ref r_shades_rank, .ref r_shades_keys, .int f_shades_size, .int f_shades_stale])), (q_shades_tint, .inl (c_shades_tint, n_shades_tint, .inl f_shades_tint)), (q_shades_many, .inl (c_shades_many, n_shades_many, .inl f_shades_many))]
set_option maxHeartbeats 4000000 in
set_option maxRecDepth 100000 in
theorem metBx_measure (l : Launch) (dC : Nat → ClassId) (dI : Nat → Nat → Nat) (q_this q_row q_start q_end q_weight q_spread q_widest q_shades q_shades_tint q_shades_many r_shades_rank r_shades_keys : Nat) (c_row c_start c_end c_weight c_spread c_widest c_shades_tint c_shades_many : ClassId) (n_row n_start n_end n_weight n_spread n_widest n_shades_tint n_shades_many : Nat) (sz : Nat) (f_size : Int32) (f_row : Nat → Int32) (f_start : Nat → Int32) (f_end : Nat → Int32) (f_weight : Nat → Int32) (f_spread : Nat → Int32) (f_widest : Nat → Int32) (f_shades_size : Int32) (f_shades_stale : Int32) (f_shades_tint : Nat → Int32) (f_shades_many : Nat → Int32) (x1 : Int32) (x2 : Int32) (x3 : Int32) {post : (Nat → Int32) → (Nat → Int32) → (Nat → Int32) → (Nat → Int32) → (Nat → Int32) → Prop} (hw : wpBx_measure n_row n_start n_end n_weight n_spread n_widest n_shades_tint n_shades_many f_size f_row f_start f_end f_weight f_spread f_widest f_shades_size f_shades_stale f_shades_tint f_shades_many x1 x2 x3 post) : Met l yBx_measure (.code yBx_measure bBx_measure 7 none :: BIG) ({ frames := 2, cells := 0, slots := 0, locals := 49 }) (va_Pc [.ref q_this, .int x1, .int x2, .int x3, .ref q_shades] (gx_pre (dC, dI) vwCl (wdBx_measure q_this q_row q_start q_end q_weight q_spread q_widest q_shades q_shades_tint q_shades_many r_shades_rank r_shades_keys c_row c_start c_end c_weight c_spread c_widest c_shades_tint c_shades_many n_row n_start n_end n_weight n_spread n_widest n_shades_tint n_shades_many f_size f_row f_start f_end f_weight f_spread f_widest f_shades_size f_shades_stale f_shades_tint f_shades_many) [(c_row, .int), (c_start, .int), (c_end, .int), (c_weight, .int), (c_spread, .int), (c_widest, .int), (c_shades_tint, .int), (c_shades_many, .int)] sz)) (va_Qv (fun (u : (Nat → Int32) × (Nat → Int32) × (Nat → Int32) × (Nat → Int32) × (Nat → Int32)) => post u.1 u.2.1 u.2.2.1 u.2.2.2.1 u.2.2.2.2) (gx_B (dC, dI) vwCl (va_A (wdBx_measure q_this q_row q_start q_end q_weight q_spread q_widest q_shades q_shades_tint q_shades_many r_shades_rank r_shades_keys c_row c_start c_end c_weight c_spread c_widest c_shades_tint c_shades_many n_row n_start n_end n_weight n_spread n_widest n_shades_tint n_shades_many f_size f_row f_start f_end f_weight f_spread f_widest f_shades_size f_shades_stale f_shades_tint f_shades_many) sz) (fun (u : (Nat → Int32) × (Nat → Int32) × (Nat → Int32) × (Nat → Int32) × (Nat → Int32)) => (wdBx_measure q_this q_row q_start q_end q_weight q_spread q_widest q_shades q_shades_tint q_shades_many r_shades_rank r_shades_keys c_row c_start c_end c_weight c_spread c_widest c_shades_tint c_shades_many n_row n_start n_end n_weight n_spread n_widest n_shades_tint n_shades_many f_size f_row u.1 u.2.1 u.2.2.1 u.2.2.2.1 u.2.2.2.2 f_shades_size f_shades_stale f_shades_tint f_shades_many))) (va_A (wdBx_measure q_this q_row q_start q_end q_weight q_spread q_widest q_shades q_shades_tint q_shades_many r_shades_rank r_shades_keys c_row c_start c_end c_weight c_spread c_widest c_shades_tint c_shades_many n_row n_start n_end n_weight n_spread n_widest n_shades_tint n_shades_many f_size f_row f_start f_end f_weight f_spread f_widest f_shades_size f_shades_stale f_shades_tint f_shades_many) sz)) 0 0 (va_A (wdBx_measure q_this q_row q_start q_end q_weight q_spread q_widest q_shades q_shades_tint q_shades_many r_shades_rank r_shades_keys c_row c_start c_end c_weight c_spread c_widest c_shades_tint c_shades_many n_row n_start n_end n_weight n_spread n_widest n_shades_tint n_shades_many f_size f_row f_start f_end f_weight f_spread f_widest f_shades_size f_shades_stale f_shades_tint f_shades_many) sz) := by
  refine Met.ofW (cc := bBx_measure) (maxL := 7) (ret := none) (by decide) rfl ?_
  intro p e s m args below meth c s₁ B hml hv
  obtain ⟨rfl, hsz, hP, hK, hD0, hZ⟩ := hv
  have hx := B.exec
  have hb := B.bytes
  have hr := B.returns
  have hts := atoms_spec (ws := (.code yBx_measure bBx_measure 7 none :: BIG)) B.pre
  have hB : ∀ w ∈ BIG, w.before _ s = true := fun w h => hts w (List.mem_cons_of_mem _ h)
  have hown : s.vm.findClass RBx = some m.cls := findClass_of_methodNamed B.named
  have hlocks := B.notSynchronized
  subst hsz
  have hD := hD0.self (sz := s.heap.size)
  generalize hAe : va_A (wdBx_measure q_this q_row q_start q_end q_weight q_spread q_widest q_shades q_shades_tint q_shades_many r_shades_rank r_shades_keys c_row c_start c_end c_weight c_spread c_widest c_shades_tint c_shades_many n_row n_start n_end n_weight n_spread n_widest n_shades_tint n_shades_many f_size f_row f_start f_end f_weight f_spread f_widest f_shades_size f_shades_stale f_shades_tint f_shades_many) s.heap.size = A at hD hZ ⊢
  have hA : ∀ q : Nat, s.heap.size ≤ q → A q := fun q h => by rw [← hAe]; exact Or.inr h
  have hS : va_S A s.heap s.heap [] := va_S.rf
  have hl := lv_entry ([.ref q_this, .int x1, .int x2, .int x3, .ref q_shades]) (n := 7) (Nat.le_of_ble_eq_true rfl)
  rw [lg_entry_eq]
  generalize (lg_sl ([.ref q_this, .int x1, .int x2, .int x3, .ref q_shades]) ++ List.replicate (7 - (lg_sl ([.ref q_this, .int x1, .int x2, .int x3, .ref q_shades])).length) Slot.unset).toArray = ls at hl ⊢
  have hl : lv_has ls 7 [(0, .ref q_this), (1, .int x1), (2, .int x2), (3, .int x3), (4, .ref q_shades)] := hl
  have hL9 := (hB _ bw118)
  have hL15 := (hB _ bw119)
  have hL18 := (hB _ bw120)
  have hL21 := (hB _ bw121)
  have hL24 := (hB _ bw122)
  have hL27 := (hB _ bw117)
  have hL61 := (hB _ bw91)
  refine gx_abs (fun G eG => ?_)
  obtain ⟨K24, eK24⟩ : ∃ K : Int32 → (Nat → Int32) → (Nat → Int32) → (Nat → Int32) → (Nat → Int32) → (Nat → Int32) → Prop, K = fun v5 f_start f_end f_weight f_spread f_widest => ∀ (H : Heap) (locs : List Loc) (ls : Array Slot), va_P (dC, dI) vwCl (wdBx_measure q_this q_row q_start q_end q_weight q_spread q_widest q_shades q_shades_tint q_shades_many r_shades_rank r_shades_keys c_row c_start c_end c_weight c_spread c_widest c_shades_tint c_shades_many n_row n_start n_end n_weight n_spread n_widest n_shades_tint n_shades_many f_size f_row f_start f_end f_weight f_spread f_widest f_shades_size f_shades_stale f_shades_tint f_shades_many) H → va_D A (wdBx_measure q_this q_row q_start q_end q_weight q_spread q_widest q_shades q_shades_tint q_shades_many r_shades_rank r_shades_keys c_row c_start c_end c_weight c_spread c_widest c_shades_tint c_shades_many n_row n_start n_end n_weight n_spread n_widest n_shades_tint n_shades_many f_size f_row f_start f_end f_weight f_spread f_widest f_shades_size f_shades_stale f_shades_tint f_shades_many) → va_S A s.heap H locs → lv_has ls 7 [(0, .ref q_this), (1, .int x1), (2, .int x2), (3, .int x3), (4, .ref q_shades), (5, .int v5)] → G H locs 0 0 (F0 m 24 ls []) := ⟨_, rfl⟩
  obtain ⟨K68, eK68⟩ : ∃ K : Int32 → (Nat → Int32) → (Nat → Int32) → (Nat → Int32) → (Nat → Int32) → (Nat → Int32) → Prop, K = fun v5 f_start f_end f_weight f_spread f_widest => ∀ (H : Heap) (locs : List Loc) (ls : Array Slot), va_P (dC, dI) vwCl (wdBx_measure q_this q_row q_start q_end q_weight q_spread q_widest q_shades q_shades_tint q_shades_many r_shades_rank r_shades_keys c_row c_start c_end c_weight c_spread c_widest c_shades_tint c_shades_many n_row n_start n_end n_weight n_spread n_widest n_shades_tint n_shades_many f_size f_row f_start f_end f_weight f_spread f_widest f_shades_size f_shades_stale f_shades_tint f_shades_many) H → va_D A (wdBx_measure q_this q_row q_start q_end q_weight q_spread q_widest q_shades q_shades_tint q_shades_many r_shades_rank r_shades_keys c_row c_start c_end c_weight c_spread c_widest c_shades_tint c_shades_many n_row n_start n_end n_weight n_spread n_widest n_shades_tint n_shades_many f_size f_row f_start f_end f_weight f_spread f_widest f_shades_size f_shades_stale f_shades_tint f_shades_many) → va_S A s.heap H locs → lv_has ls 7 [(0, .ref q_this), (1, .int x1), (2, .int x2), (3, .int x3), (4, .ref q_shades), (5, .int v5)] → G H locs 0 0 (F0 m 68 ls []) := ⟨_, rfl⟩
  have j113 : ∀ (v5 : Int32) (f_start : Nat → Int32) (f_end : Nat → Int32) (f_weight : Nat → Int32) (f_spread : Nat → Int32) (f_widest : Nat → Int32), vcBx_measure_113 n_row n_start n_end n_weight n_spread n_widest n_shades_tint n_shades_many f_size f_row f_shades_size f_shades_stale f_shades_tint f_shades_many x1 x2 x3 K24 K68 post v5 f_start f_end f_weight f_spread f_widest → ∀ (H : Heap) (locs : List Loc) (ls : Array Slot), va_P (dC, dI) vwCl (wdBx_measure q_this q_row q_start q_end q_weight q_spread q_widest q_shades q_shades_tint q_shades_many r_shades_rank r_shades_keys c_row c_start c_end c_weight c_spread c_widest c_shades_tint c_shades_many n_row n_start n_end n_weight n_spread n_widest n_shades_tint n_shades_many f_size f_row f_start f_end f_weight f_spread f_widest f_shades_size f_shades_stale f_shades_tint f_shades_many) H → va_D A (wdBx_measure q_this q_row q_start q_end q_weight q_spread q_widest q_shades q_shades_tint q_shades_many r_shades_rank r_shades_keys c_row c_start c_end c_weight c_spread c_widest c_shades_tint c_shades_many n_row n_start n_end n_weight n_spread n_widest n_shades_tint n_shades_many f_size f_row f_start f_end f_weight f_spread f_widest f_shades_size f_shades_stale f_shades_tint f_shades_many) → va_S A s.heap H locs → lv_has ls 7 [(0, .ref q_this), (1, .int x1), (2, .int x2), (3, .int x3), (4, .ref q_shades), (5, .int v5)] → G H locs 0 0 (F0 m 113 ls []) := by
    intro v5 f_start f_end f_weight f_spread f_widest hv H locs ls hP hD hS hl
    rw [eG]
    unfold vcBx_measure_113 at hv
    refine lv_iinc (v := v5 + 1) (lv' := [(5, .int (v5 + 1)), (0, .ref q_this), (1, .int x1), (2, .int x2), (3, .int x3), (4, .ref q_shades)]) hx hb dBx_measure_113 hl (k := 5) rfl rfl (by decide) rfl (fun ls hl => ?_)
    refine lv_goto (tgt := 68) hx hb dBx_measure_116 (by decide) ?_
    rw [eK68, eG] at hv
    exact hv _ _ _ hP hD hS (lv_sub hl [1, 2, 3, 4, 5, 0] rfl)
  rw [eG] at j113
  unfold wpBx_measure at hw
  have hv := hw K24 K68
  have hv := hv (by
    intro v5 f_start f_end f_weight f_spread f_widest hv
    rw [eK24]
    intro H locs ls hP hD hS hl
    rw [eG]
    unfold vcBx_measure_24 at hv
    refine lv_iload hx hb dBx_measure_24 (lv_at hl 5 rfl) ?_
    refine lv_iload_n hx hb dBx_measure_26 rfl (lv_at hl 3 rfl) ?_
    refine lv_icmp_ge (tgt := 58) hx hb dBx_measure_27 (by decide) (fun c_1 => ?_) (fun c_1 => ?_)
    · have hv := hv.1 c_1
      refine lv_aload_n hx hb dBx_measure_58 rfl (lv_at hl 0 rfl) ?_
      refine va_get (D := (dC, dI)) (ci := 0) (v := .ref q_spread) (C := RBx) (T := TBx) (N := 7) hx hb hB hiBx hown hK hP 0 rfl rfl 4 (by decide) hL21 (fun _ h9 => h9) rfl dBx_measure_59 ?_
      refine lv_iload_n hx hb dBx_measure_62 rfl (lv_at hl 1 rfl) ?_
      refine lv_iconst (v := (-1)) hx hb dBx_measure_63 (by decide) ?_
      obtain ⟨h_2, hv⟩ := hv
      refine va_iast hx hb hK hP hD hS 5 4 rfl rfl h_2 dBx_measure_64 (fun H locs hP hD hS => ?_)
      have hP : va_P (dC, dI) vwCl (wdBx_measure q_this q_row q_start q_end q_weight q_spread q_widest q_shades q_shades_tint q_shades_many r_shades_rank r_shades_keys c_row c_start c_end c_weight c_spread c_widest c_shades_tint c_shades_many n_row n_start n_end n_weight n_spread n_widest n_shades_tint n_shades_many f_size f_row f_start f_end f_weight (upd f_spread x1.toNatClampNeg (-1)) f_widest f_shades_size f_shades_stale f_shades_tint f_shades_many) H := hP
      have hD : va_D A (wdBx_measure q_this q_row q_start q_end q_weight q_spread q_widest q_shades q_shades_tint q_shades_many r_shades_rank r_shades_keys c_row c_start c_end c_weight c_spread c_widest c_shades_tint c_shades_many n_row n_start n_end n_weight n_spread n_widest n_shades_tint n_shades_many f_size f_row f_start f_end f_weight (upd f_spread x1.toNatClampNeg (-1)) f_widest f_shades_size f_shades_stale f_shades_tint f_shades_many) := hD
      refine lv_iconst (v := 0) hx hb dBx_measure_65 (by decide) ?_
      refine lv_istore (lv' := [(5, .int 0), (0, .ref q_this), (1, .int x1), (2, .int x2), (3, .int x3), (4, .ref q_shades)]) hx hb dBx_measure_66 hl (by decide) rfl (fun ls hl => ?_)
      rw [eK68, eG] at hv
      exact hv _ _ _ hP hD hS (lv_sub hl [1, 2, 3, 4, 5, 0] rfl)
    · have hv := hv.2 c_1
      refine lv_aload_n hx hb dBx_measure_30 rfl (lv_at hl 0 rfl) ?_
      refine va_get (D := (dC, dI)) (ci := 0) (v := .ref q_weight) (C := RBx) (T := TBx) (N := 7) hx hb hB hiBx hown hK hP 0 rfl rfl 3 (by decide) hL18 (fun _ h9 => h9) rfl dBx_measure_31 ?_
      refine lv_iload_n hx hb dBx_measure_34 rfl (lv_at hl 1 rfl) ?_
      refine lv_dup2_11 hx hb dBx_measure_35 rfl rfl ?_
      obtain ⟨h_4, hv⟩ := hv
      refine va_iald hx hb hK hP 4 3 rfl rfl h_4 dBx_measure_36 ?_
      refine lv_aload hx hb dBx_measure_37 (lv_at hl 4 rfl) ?_
      refine va_get (D := (dC, dI)) (ci := 6) (v := .ref q_shades_many) (C := RSh) (T := TSh) (N := 6) hx hb hB hiSh hown hK hP 7 rfl rfl 1 (by decide) hL61 (fun _ h9 => h9) rfl dBx_measure_39 ?_
      refine lv_aload_n hx hb dBx_measure_42 rfl (lv_at hl 0 rfl) ?_
      refine va_get (D := (dC, dI)) (ci := 0) (v := .ref q_row) (C := RBx) (T := TBx) (N := 7) hx hb hB hiBx hown hK hP 0 rfl rfl 0 (by decide) hL27 (fun _ h9 => h9) rfl dBx_measure_43 ?_
      refine lv_iload hx hb dBx_measure_46 (lv_at hl 5 rfl) ?_
      obtain ⟨h_5, hv⟩ := hv
      refine va_iald hx hb hK hP 1 0 rfl rfl h_5 dBx_measure_48 ?_
      obtain ⟨h_6, hv⟩ := hv
      refine va_iald hx hb hK hP 9 7 rfl rfl h_6 dBx_measure_49 ?_
      refine lv_iadd hx hb dBx_measure_50 ?_
      obtain ⟨h_7, hv⟩ := hv
      refine va_iast hx hb hK hP hD hS 4 3 rfl rfl h_7 dBx_measure_51 (fun H locs hP hD hS => ?_)
      have hP : va_P (dC, dI) vwCl (wdBx_measure q_this q_row q_start q_end q_weight q_spread q_widest q_shades q_shades_tint q_shades_many r_shades_rank r_shades_keys c_row c_start c_end c_weight c_spread c_widest c_shades_tint c_shades_many n_row n_start n_end n_weight n_spread n_widest n_shades_tint n_shades_many f_size f_row f_start f_end (upd f_weight x1.toNatClampNeg ((f_weight x1.toNatClampNeg) + (f_shades_many (f_row v5.toNatClampNeg).toNatClampNeg))) f_spread f_widest f_shades_size f_shades_stale f_shades_tint f_shades_many) H := hP
      have hD : va_D A (wdBx_measure q_this q_row q_start q_end q_weight q_spread q_widest q_shades q_shades_tint q_shades_many r_shades_rank r_shades_keys c_row c_start c_end c_weight c_spread c_widest c_shades_tint c_shades_many n_row n_start n_end n_weight n_spread n_widest n_shades_tint n_shades_many f_size f_row f_start f_end (upd f_weight x1.toNatClampNeg ((f_weight x1.toNatClampNeg) + (f_shades_many (f_row v5.toNatClampNeg).toNatClampNeg))) f_spread f_widest f_shades_size f_shades_stale f_shades_tint f_shades_many) := hD
      refine lv_iinc (v := v5 + 1) (lv' := [(5, .int (v5 + 1)), (0, .ref q_this), (1, .int x1), (2, .int x2), (3, .int x3), (4, .ref q_shades)]) hx hb dBx_measure_52 hl (k := 5) rfl rfl (by decide) rfl (fun ls hl => ?_)
      refine lv_goto (tgt := 24) hx hb dBx_measure_55 (by decide) ?_
      rw [eK24, eG] at hv
      exact hv _ _ _ hP hD hS (lv_sub hl [1, 2, 3, 4, 5, 0] rfl))
  have hv := hv (by
    intro v5 f_start f_end f_weight f_spread f_widest hv
    rw [eK68]
    intro H locs ls hP hD hS hl
    rw [eG]
    unfold vcBx_measure_68 at hv
    refine lv_iload hx hb dBx_measure_68 (lv_at hl 5 rfl) ?_
    refine lv_iconst (v := 4) hx hb dBx_measure_70 (by decide) ?_
    refine lv_icmp_ge (tgt := 119) hx hb dBx_measure_71 (by decide) (fun c_9 => ?_) (fun c_9 => ?_)
    · have hv := hv.1 c_9
      exact W.vret hx hb hr (fun t ht hW => ⟨⟨(f_start, f_end, f_weight, f_spread, f_widest), rfl, hv, by rw [ht]; exact hP, hD⟩, hS.F ht⟩) hS.2.2 dBx_measure_119
    · have hv := hv.2 c_9
      refine lv_aload_n hx hb dBx_measure_74 rfl (lv_at hl 0 rfl) ?_
      refine lv_iload hx hb dBx_measure_75 (lv_at hl 5 rfl) ?_
      refine lv_iload_n hx hb dBx_measure_77 rfl (lv_at hl 2 rfl) ?_
      refine lv_iload_n hx hb dBx_measure_78 rfl (lv_at hl 3 rfl) ?_
      refine lv_aload hx hb dBx_measure_79 (lv_at hl 4 rfl) ?_
      refine gx_ri (va_runV (As := [.int v5, .int x2, .int x3, .ref q_shades]) (rest := []) ⟨hx, hb, hml, hown, hB⟩ (metBx_spreadOf l dC dI q_this q_row q_shades q_shades_tint q_start q_end q_weight q_spread q_widest q_shades_many r_shades_rank r_shades_keys c_row c_shades_tint n_row n_shades_tint H.size f_size f_row f_shades_size f_shades_stale f_shades_tint v5 x2 x3 hv) (cwV 4 hB (gx_gV bw405 bw406 bw8 bw47 bw407) rfl rfl rfl (by decide +kernel) ⟨(Nat.le_of_ble_eq_true rfl), (Nat.le_of_ble_eq_true rfl)⟩) (gx_rpreV (ci := 0) (hP.sub (ws' := (wdBx_spreadOf q_this q_row q_shades q_shades_tint q_start q_end q_weight q_spread q_widest q_shades_many r_shades_rank r_shades_keys c_row c_shades_tint n_row n_shades_tint f_size f_row f_shades_size f_shades_stale f_shades_tint)) [0, 1, 7, 8] rfl) (hK.sub (tys' := [(c_row, .int), (c_shades_tint, .int)]) [0, 6] rfl) hZ hS hA rfl rfl) rfl rfl hl.1 rfl (lv_room (Nat.le_of_ble_eq_true rfl)) dBx_measure_81 ⟨(Nat.le_of_ble_eq_true rfl), (Nat.le_of_ble_eq_true rfl)⟩) hP hS hA (fun r_10 H locs hv hP hS => ?_)
      refine lv_istore (lv' := [(6, .int r_10), (0, .ref q_this), (1, .int x1), (2, .int x2), (3, .int x3), (4, .ref q_shades), (5, .int v5)]) hx hb dBx_measure_84 hl (by decide) rfl (fun ls hl => ?_)
      refine lv_iload hx hb dBx_measure_86 (lv_at hl 0 rfl) ?_
      refine lv_aload_n hx hb dBx_measure_88 rfl (lv_at hl 1 rfl) ?_
      refine va_get (D := (dC, dI)) (ci := 0) (v := .ref q_spread) (C := RBx) (T := TBx) (N := 7) hx hb hB hiBx hown hK hP 0 rfl rfl 4 (by decide) hL21 (fun _ h9 => h9) rfl dBx_measure_89 ?_
      refine lv_iload_n hx hb dBx_measure_92 rfl (lv_at hl 2 rfl) ?_
      obtain ⟨h_12, hv⟩ := hv
      refine va_iald hx hb hK hP 5 4 rfl rfl h_12 dBx_measure_93 ?_
      refine lv_icmp_le (tgt := 113) hx hb dBx_measure_94 (by decide) (fun c_13 => ?_) (fun c_13 => ?_)
      · have hv := hv.1 c_13
        exact j113 v5 f_start f_end f_weight f_spread f_widest hv _ _ _ hP hD hS (lv_sub hl [1, 2, 3, 4, 5, 6] rfl)
      · have hv := hv.2 c_13
        refine lv_aload_n hx hb dBx_measure_97 rfl (lv_at hl 1 rfl) ?_
        refine va_get (D := (dC, dI)) (ci := 0) (v := .ref q_spread) (C := RBx) (T := TBx) (N := 7) hx hb hB hiBx hown hK hP 0 rfl rfl 4 (by decide) hL21 (fun _ h9 => h9) rfl dBx_measure_98 ?_
        refine lv_iload_n hx hb dBx_measure_101 rfl (lv_at hl 2 rfl) ?_
        refine lv_iload hx hb dBx_measure_102 (lv_at hl 0 rfl) ?_
        obtain ⟨h_14, hv⟩ := hv
        refine va_iast hx hb hK hP hD hS 5 4 rfl rfl h_14 dBx_measure_104 (fun H locs hP hD hS => ?_)
        have hP : va_P (dC, dI) vwCl (wdBx_measure q_this q_row q_start q_end q_weight q_spread q_widest q_shades q_shades_tint q_shades_many r_shades_rank r_shades_keys c_row c_start c_end c_weight c_spread c_widest c_shades_tint c_shades_many n_row n_start n_end n_weight n_spread n_widest n_shades_tint n_shades_many f_size f_row f_start f_end f_weight (upd f_spread x1.toNatClampNeg r_10) f_widest f_shades_size f_shades_stale f_shades_tint f_shades_many) H := hP
        have hD : va_D A (wdBx_measure q_this q_row q_start q_end q_weight q_spread q_widest q_shades q_shades_tint q_shades_many r_shades_rank r_shades_keys c_row c_start c_end c_weight c_spread c_widest c_shades_tint c_shades_many n_row n_start n_end n_weight n_spread n_widest n_shades_tint n_shades_many f_size f_row f_start f_end f_weight (upd f_spread x1.toNatClampNeg r_10) f_widest f_shades_size f_shades_stale f_shades_tint f_shades_many) := hD
        refine lv_aload_n hx hb dBx_measure_105 rfl (lv_at hl 1 rfl) ?_
        refine va_get (D := (dC, dI)) (ci := 0) (v := .ref q_widest) (C := RBx) (T := TBx) (N := 7) hx hb hB hiBx hown hK hP 0 rfl rfl 5 (by decide) hL24 (fun _ h9 => h9) rfl dBx_measure_106 ?_
        refine lv_iload_n hx hb dBx_measure_109 rfl (lv_at hl 2 rfl) ?_
        refine lv_iload hx hb dBx_measure_110 (lv_at hl 6 rfl) ?_
        obtain ⟨h_16, hv⟩ := hv
        refine va_iast hx hb hK hP hD hS 6 5 rfl rfl h_16 dBx_measure_112 (fun H locs hP hD hS => ?_)
        have hP : va_P (dC, dI) vwCl (wdBx_measure q_this q_row q_start q_end q_weight q_spread q_widest q_shades q_shades_tint q_shades_many r_shades_rank r_shades_keys c_row c_start c_end c_weight c_spread c_widest c_shades_tint c_shades_many n_row n_start n_end n_weight n_spread n_widest n_shades_tint n_shades_many f_size f_row f_start f_end f_weight (upd f_spread x1.toNatClampNeg r_10) (upd f_widest x1.toNatClampNeg v5) f_shades_size f_shades_stale f_shades_tint f_shades_many) H := hP
        have hD : va_D A (wdBx_measure q_this q_row q_start q_end q_weight q_spread q_widest q_shades q_shades_tint q_shades_many r_shades_rank r_shades_keys c_row c_start c_end c_weight c_spread c_widest c_shades_tint c_shades_many n_row n_start n_end n_weight n_spread n_widest n_shades_tint n_shades_many f_size f_row f_start f_end f_weight (upd f_spread x1.toNatClampNeg r_10) (upd f_widest x1.toNatClampNeg v5) f_shades_size f_shades_stale f_shades_tint f_shades_many) := hD
        exact j113 v5 f_start f_end f_weight (upd f_spread x1.toNatClampNeg r_10) (upd f_widest x1.toNatClampNeg v5) hv _ _ _ hP hD hS (lv_sub hl [1, 2, 3, 4, 5, 6] rfl))
  rw [eG]
  refine lv_aload_n hx hb dBx_measure_0 rfl (lv_at hl 0 rfl) ?_
  refine va_get (D := (dC, dI)) (ci := 0) (v := .ref q_start) (C := RBx) (T := TBx) (N := 7) hx hb hB hiBx hown hK hP 0 rfl rfl 1 (by decide) hL9 (fun _ h9 => h9) rfl dBx_measure_1 ?_
  refine lv_iload_n hx hb dBx_measure_4 rfl (lv_at hl 1 rfl) ?_
  refine lv_iload_n hx hb dBx_measure_5 rfl (lv_at hl 2 rfl) ?_
  obtain ⟨h_18, hv⟩ := hv
  refine va_iast hx hb hK hP hD hS 2 1 rfl rfl h_18 dBx_measure_6 (fun H locs hP hD hS => ?_)
  have hP : va_P (dC, dI) vwCl (wdBx_measure q_this q_row q_start q_end q_weight q_spread q_widest q_shades q_shades_tint q_shades_many r_shades_rank r_shades_keys c_row c_start c_end c_weight c_spread c_widest c_shades_tint c_shades_many n_row n_start n_end n_weight n_spread n_widest n_shades_tint n_shades_many f_size f_row (upd f_start x1.toNatClampNeg x2) f_end f_weight f_spread f_widest f_shades_size f_shades_stale f_shades_tint f_shades_many) H := hP
  have hD : va_D A (wdBx_measure q_this q_row q_start q_end q_weight q_spread q_widest q_shades q_shades_tint q_shades_many r_shades_rank r_shades_keys c_row c_start c_end c_weight c_spread c_widest c_shades_tint c_shades_many n_row n_start n_end n_weight n_spread n_widest n_shades_tint n_shades_many f_size f_row (upd f_start x1.toNatClampNeg x2) f_end f_weight f_spread f_widest f_shades_size f_shades_stale f_shades_tint f_shades_many) := hD
  refine lv_aload_n hx hb dBx_measure_7 rfl (lv_at hl 0 rfl) ?_
  refine va_get (D := (dC, dI)) (ci := 0) (v := .ref q_end) (C := RBx) (T := TBx) (N := 7) hx hb hB hiBx hown hK hP 0 rfl rfl 2 (by decide) hL15 (fun _ h9 => h9) rfl dBx_measure_8 ?_
  refine lv_iload_n hx hb dBx_measure_11 rfl (lv_at hl 1 rfl) ?_
  refine lv_iload_n hx hb dBx_measure_12 rfl (lv_at hl 3 rfl) ?_
  obtain ⟨h_20, hv⟩ := hv
  refine va_iast hx hb hK hP hD hS 3 2 rfl rfl h_20 dBx_measure_13 (fun H locs hP hD hS => ?_)
  have hP : va_P (dC, dI) vwCl (wdBx_measure q_this q_row q_start q_end q_weight q_spread q_widest q_shades q_shades_tint q_shades_many r_shades_rank r_shades_keys c_row c_start c_end c_weight c_spread c_widest c_shades_tint c_shades_many n_row n_start n_end n_weight n_spread n_widest n_shades_tint n_shades_many f_size f_row (upd f_start x1.toNatClampNeg x2) (upd f_end x1.toNatClampNeg x3) f_weight f_spread f_widest f_shades_size f_shades_stale f_shades_tint f_shades_many) H := hP
  have hD : va_D A (wdBx_measure q_this q_row q_start q_end q_weight q_spread q_widest q_shades q_shades_tint q_shades_many r_shades_rank r_shades_keys c_row c_start c_end c_weight c_spread c_widest c_shades_tint c_shades_many n_row n_start n_end n_weight n_spread n_widest n_shades_tint n_shades_many f_size f_row (upd f_start x1.toNatClampNeg x2) (upd f_end x1.toNatClampNeg x3) f_weight f_spread f_widest f_shades_size f_shades_stale f_shades_tint f_shades_many) := hD
  refine lv_aload_n hx hb dBx_measure_14 rfl (lv_at hl 0 rfl) ?_
  refine va_get (D := (dC, dI)) (ci := 0) (v := .ref q_weight) (C := RBx) (T := TBx) (N := 7) hx hb hB hiBx hown hK hP 0 rfl rfl 3 (by decide) hL18 (fun _ h9 => h9) rfl dBx_measure_15 ?_
  refine lv_iload_n hx hb dBx_measure_18 rfl (lv_at hl 1 rfl) ?_
  refine lv_iconst (v := 0) hx hb dBx_measure_19 (by decide) ?_
  obtain ⟨h_22, hv⟩ := hv
  refine va_iast hx hb hK hP hD hS 4 3 rfl rfl h_22 dBx_measure_20 (fun H locs hP hD hS => ?_)
  have hP : va_P (dC, dI) vwCl (wdBx_measure q_this q_row q_start q_end q_weight q_spread q_widest q_shades q_shades_tint q_shades_many r_shades_rank r_shades_keys c_row c_start c_end c_weight c_spread c_widest c_shades_tint c_shades_many n_row n_start n_end n_weight n_spread n_widest n_shades_tint n_shades_many f_size f_row (upd f_start x1.toNatClampNeg x2) (upd f_end x1.toNatClampNeg x3) (upd f_weight x1.toNatClampNeg 0) f_spread f_widest f_shades_size f_shades_stale f_shades_tint f_shades_many) H := hP
  have hD : va_D A (wdBx_measure q_this q_row q_start q_end q_weight q_spread q_widest q_shades q_shades_tint q_shades_many r_shades_rank r_shades_keys c_row c_start c_end c_weight c_spread c_widest c_shades_tint c_shades_many n_row n_start n_end n_weight n_spread n_widest n_shades_tint n_shades_many f_size f_row (upd f_start x1.toNatClampNeg x2) (upd f_end x1.toNatClampNeg x3) (upd f_weight x1.toNatClampNeg 0) f_spread f_widest f_shades_size f_shades_stale f_shades_tint f_shades_many) := hD
  refine lv_iload_n hx hb dBx_measure_21 rfl (lv_at hl 2 rfl) ?_
  refine lv_istore (lv' := [(5, .int x2), (0, .ref q_this), (1, .int x1), (2, .int x2), (3, .int x3), (4, .ref q_shades)]) hx hb dBx_measure_22 hl (by decide) rfl (fun ls hl => ?_)
  rw [eK24, eG] at hv
  exact hv _ _ _ hP hD hS (lv_sub hl [1, 2, 3, 4, 5, 0] rfl)
abbrev wdBx_nextToCut (q_this q_weight q_spread r_row r_start r_end r_widest : Nat) (c_weight c_spread : ClassId) (n_weight n_spread : Nat) (f_size : Int32) (f_weight : Nat → Int32) (f_spread : Nat → Int32) : va_W := [(q_this, .inr (0, [.ref r_row, .ref r_start, .ref r_end, .ref q_weight, .ref q_spread, .ref r_widest, .int f_size])), (q_weight, .inl (c_weight, n_weight, .inl f_weight)), (q_spread, .inl (c_spread, n_spread, .inl f_spread))]
set_option maxHeartbeats 4000000 in
set_option maxRecDepth 100000 in
theorem metBx_nextToCut (l : Launch) (dC : Nat → ClassId) (dI : Nat → Nat → Nat) (q_this q_weight q_spread r_row r_start r_end r_widest : Nat) (c_weight c_spread : ClassId) (n_weight n_spread : Nat) (sz : Nat) (f_size : Int32) (f_weight : Nat → Int32) (f_spread : Nat → Int32) {post : Int32 → Prop} (hw : wpBx_nextToCut n_weight n_spread f_size f_weight f_spread post) : Met l yBx_nextToCut (.code yBx_nextToCut bBx_nextToCut 5 (some .int) :: BIG) ({ frames := 0, cells := 0, slots := 0, locals := 0 }) (va_Pc [.ref q_this] (gx_rpre (dC, dI) vwCl (wdBx_nextToCut q_this q_weight q_spread r_row r_start r_end r_widest c_weight c_spread n_weight n_spread f_size f_weight f_spread) [(c_weight, .int), (c_spread, .int)] sz)) (va_Qi (fun r (u : Unit) => post r ) (fun _ _ => True) (fun q : Nat => sz ≤ q)) 0 0 (fun q : Nat => sz ≤ q) := by
  refine Met.ofW (cc := bBx_nextToCut) (maxL := 5) (ret := (some .int)) (by decide) rfl ?_
  intro p e s m args below meth c s₁ B hml hv
  obtain ⟨rfl, hsz, hP, hK, hZ⟩ := hv
  have hx := B.exec
  have hb := B.bytes
  have hr := B.returns
  have hts := atoms_spec (ws := (.code yBx_nextToCut bBx_nextToCut 5 (some .int) :: BIG)) B.pre
  have hB : ∀ w ∈ BIG, w.before _ s = true := fun w h => hts w (List.mem_cons_of_mem _ h)
  have hown : s.vm.findClass RBx = some m.cls := findClass_of_methodNamed B.named
  have hlocks := B.notSynchronized
  subst hsz
  have hA : ∀ q : Nat, s.heap.size ≤ q → (fun q : Nat => s.heap.size ≤ q) q := fun _ h => h
  have hS : va_S (fun q : Nat => s.heap.size ≤ q) s.heap s.heap [] := va_S.rf
  have hl := lv_entry ([.ref q_this]) (n := 5) (Nat.le_of_ble_eq_true rfl)
  rw [lg_entry_eq]
  generalize (lg_sl ([.ref q_this]) ++ List.replicate (5 - (lg_sl ([.ref q_this])).length) Slot.unset).toArray = ls at hl ⊢
  have hl : lv_has ls 5 [(0, .ref q_this)] := hl
  have hL18 := (hB _ bw120)
  have hL21 := (hB _ bw121)
  have hL30 := (hB _ bw123)
  refine gx_abs (fun G eG => ?_)
  obtain ⟨K4, eK4⟩ : ∃ K : Int32 → Int32 → Prop, K = fun v1 v2 => ∀ (H : Heap) (locs : List Loc) (ls : Array Slot), va_P (dC, dI) vwCl (wdBx_nextToCut q_this q_weight q_spread r_row r_start r_end r_widest c_weight c_spread n_weight n_spread f_size f_weight f_spread) H → va_S (fun q : Nat => s.heap.size ≤ q) s.heap H locs → lv_has ls 5 [(0, .ref q_this), (1, .int v1), (2, .int v2)] → G H locs 0 0 (F0 m 4 ls []) := ⟨_, rfl⟩
  have j81 : ∀ (v1 : Int32) (v2 : Int32), vcBx_nextToCut_81 n_weight n_spread f_size f_weight f_spread K4 post v1 v2 → ∀ (H : Heap) (locs : List Loc) (ls : Array Slot), va_P (dC, dI) vwCl (wdBx_nextToCut q_this q_weight q_spread r_row r_start r_end r_widest c_weight c_spread n_weight n_spread f_size f_weight f_spread) H → va_S (fun q : Nat => s.heap.size ≤ q) s.heap H locs → lv_has ls 5 [(0, .ref q_this), (1, .int v1), (2, .int v2)] → G H locs 0 0 (F0 m 81 ls []) := by
    intro v1 v2 hv H locs ls hP hS hl
    rw [eG]
    unfold vcBx_nextToCut_81 at hv
    refine lv_iinc (v := v2 + 1) (lv' := [(2, .int (v2 + 1)), (0, .ref q_this), (1, .int v1)]) hx hb dBx_nextToCut_81 hl (k := 2) rfl rfl (by decide) rfl (fun ls hl => ?_)
    refine lv_goto (tgt := 4) hx hb dBx_nextToCut_84 (by decide) ?_
    rw [eK4, eG] at hv
    exact hv _ _ _ hP hS (lv_sub hl [1, 2, 0] rfl)
  rw [eG] at j81
  have j79 : ∀ (v2 : Int32), vcBx_nextToCut_79 n_weight n_spread f_size f_weight f_spread K4 post v2 → ∀ (H : Heap) (locs : List Loc) (ls : Array Slot), va_P (dC, dI) vwCl (wdBx_nextToCut q_this q_weight q_spread r_row r_start r_end r_widest c_weight c_spread n_weight n_spread f_size f_weight f_spread) H → va_S (fun q : Nat => s.heap.size ≤ q) s.heap H locs → lv_has ls 5 [(0, .ref q_this), (2, .int v2)] → G H locs 0 0 (F0 m 79 ls []) := by
    intro v2 hv H locs ls hP hS hl
    rw [eG]
    unfold vcBx_nextToCut_79 at hv
    refine lv_iload_n hx hb dBx_nextToCut_79 rfl (lv_at hl 1 rfl) ?_
    refine lv_istore_n (lv' := [(1, .int v2), (0, .ref q_this), (2, .int v2)]) hx hb dBx_nextToCut_80 rfl hl (by decide) rfl (fun ls hl => ?_)
    exact j81 v2 v2 hv _ _ _ hP hS (lv_sub hl [1, 0, 2] rfl)
  rw [eG] at j79
  have j68 : ∀ (v1 : Int32) (v2 : Int32) (v3 : Int32) (s0 : Int32), vcBx_nextToCut_68 n_weight n_spread f_size f_weight f_spread K4 post v1 v2 v3 s0 → ∀ (H : Heap) (locs : List Loc) (ls : Array Slot), va_P (dC, dI) vwCl (wdBx_nextToCut q_this q_weight q_spread r_row r_start r_end r_widest c_weight c_spread n_weight n_spread f_size f_weight f_spread) H → va_S (fun q : Nat => s.heap.size ≤ q) s.heap H locs → lv_has ls 5 [(0, .ref q_this), (1, .int v1), (2, .int v2), (3, .int v3)] → G H locs 0 0 (F0 m 68 ls [.int s0]) := by
    intro v1 v2 v3 s0 hv H locs ls hP hS hl
    rw [eG]
    unfold vcBx_nextToCut_68 at hv
    refine lv_istore (lv' := [(4, .int s0), (0, .ref q_this), (1, .int v1), (2, .int v2), (3, .int v3)]) hx hb dBx_nextToCut_68 hl (by decide) rfl (fun ls hl => ?_)
    refine lv_iload_n hx hb dBx_nextToCut_70 rfl (lv_at hl 4 rfl) ?_
    refine lv_if_ne (tgt := 79) hx hb dBx_nextToCut_71 (by decide) (fun c_1 => ?_) (fun c_1 => ?_)
    · have hv := hv.1 c_1
      exact j79 v2 hv _ _ _ hP hS (lv_sub hl [1, 3] rfl)
    · have hv := hv.2 c_1
      refine lv_iload hx hb dBx_nextToCut_74 (lv_at hl 0 rfl) ?_
      refine lv_if_eq (tgt := 81) hx hb dBx_nextToCut_76 (by decide) (fun c_2 => ?_) (fun c_2 => ?_)
      · have hv := hv.1 c_2
        exact j81 v1 v2 hv _ _ _ hP hS (lv_sub hl [1, 2, 3] rfl)
      · have hv := hv.2 c_2
        exact j79 v2 hv _ _ _ hP hS (lv_sub hl [1, 3] rfl)
  rw [eG] at j68
  have j67 : ∀ (v1 : Int32) (v2 : Int32) (v3 : Int32), vcBx_nextToCut_67 n_weight n_spread f_size f_weight f_spread K4 post v1 v2 v3 → ∀ (H : Heap) (locs : List Loc) (ls : Array Slot), va_P (dC, dI) vwCl (wdBx_nextToCut q_this q_weight q_spread r_row r_start r_end r_widest c_weight c_spread n_weight n_spread f_size f_weight f_spread) H → va_S (fun q : Nat => s.heap.size ≤ q) s.heap H locs → lv_has ls 5 [(0, .ref q_this), (1, .int v1), (2, .int v2), (3, .int v3)] → G H locs 0 0 (F0 m 67 ls []) := by
    intro v1 v2 v3 hv H locs ls hP hS hl
    rw [eG]
    unfold vcBx_nextToCut_67 at hv
    refine lv_iconst (v := 0) hx hb dBx_nextToCut_67 (by decide) ?_
    exact j68 v1 v2 v3 0 hv _ _ _ hP hS (lv_sub hl [0, 1, 2, 3] rfl)
  rw [eG] at j67
  have j32 : ∀ (v1 : Int32) (v2 : Int32) (s0 : Int32), vcBx_nextToCut_32 n_weight n_spread f_size f_weight f_spread K4 post v1 v2 s0 → ∀ (H : Heap) (locs : List Loc) (ls : Array Slot), va_P (dC, dI) vwCl (wdBx_nextToCut q_this q_weight q_spread r_row r_start r_end r_widest c_weight c_spread n_weight n_spread f_size f_weight f_spread) H → va_S (fun q : Nat => s.heap.size ≤ q) s.heap H locs → lv_has ls 5 [(0, .ref q_this), (1, .int v1), (2, .int v2)] → G H locs 0 0 (F0 m 32 ls [.int s0]) := by
    intro v1 v2 s0 hv H locs ls hP hS hl
    rw [eG]
    unfold vcBx_nextToCut_32 at hv
    refine lv_istore_n (lv' := [(3, .int s0), (0, .ref q_this), (1, .int v1), (2, .int v2)]) hx hb dBx_nextToCut_32 rfl hl (by decide) rfl (fun ls hl => ?_)
    refine lv_aload_n hx hb dBx_nextToCut_33 rfl (lv_at hl 1 rfl) ?_
    refine va_get (D := (dC, dI)) (ci := 0) (v := .ref q_spread) (C := RBx) (T := TBx) (N := 7) hx hb hB hiBx hown hK hP 0 rfl rfl 4 (by decide) hL21 (fun _ h9 => h9) rfl dBx_nextToCut_34 ?_
    refine lv_iload_n hx hb dBx_nextToCut_37 rfl (lv_at hl 3 rfl) ?_
    obtain ⟨h_3, hv⟩ := hv
    refine va_iald hx hb hK hP 2 1 rfl rfl h_3 dBx_nextToCut_38 ?_
    refine lv_aload_n hx hb dBx_nextToCut_39 rfl (lv_at hl 1 rfl) ?_
    refine va_get (D := (dC, dI)) (ci := 0) (v := .ref q_spread) (C := RBx) (T := TBx) (N := 7) hx hb hB hiBx hown hK hP 0 rfl rfl 4 (by decide) hL21 (fun _ h9 => h9) rfl dBx_nextToCut_40 ?_
    refine lv_iload_n hx hb dBx_nextToCut_43 rfl (lv_at hl 2 rfl) ?_
    obtain ⟨h_4, hv⟩ := hv
    refine va_iald hx hb hK hP 2 1 rfl rfl h_4 dBx_nextToCut_44 ?_
    refine lv_icmp_ne (tgt := 67) hx hb dBx_nextToCut_45 (by decide) (fun c_5 => ?_) (fun c_5 => ?_)
    · have hv := hv.1 c_5
      exact j67 v1 v2 s0 hv _ _ _ hP hS (lv_sub hl [1, 2, 3, 0] rfl)
    · have hv := hv.2 c_5
      refine lv_aload_n hx hb dBx_nextToCut_48 rfl (lv_at hl 1 rfl) ?_
      refine va_get (D := (dC, dI)) (ci := 0) (v := .ref q_weight) (C := RBx) (T := TBx) (N := 7) hx hb hB hiBx hown hK hP 0 rfl rfl 3 (by decide) hL18 (fun _ h9 => h9) rfl dBx_nextToCut_49 ?_
      refine lv_iload_n hx hb dBx_nextToCut_52 rfl (lv_at hl 3 rfl) ?_
      obtain ⟨h_6, hv⟩ := hv
      refine va_iald hx hb hK hP 1 0 rfl rfl h_6 dBx_nextToCut_53 ?_
      refine lv_aload_n hx hb dBx_nextToCut_54 rfl (lv_at hl 1 rfl) ?_
      refine va_get (D := (dC, dI)) (ci := 0) (v := .ref q_weight) (C := RBx) (T := TBx) (N := 7) hx hb hB hiBx hown hK hP 0 rfl rfl 3 (by decide) hL18 (fun _ h9 => h9) rfl dBx_nextToCut_55 ?_
      refine lv_iload_n hx hb dBx_nextToCut_58 rfl (lv_at hl 2 rfl) ?_
      obtain ⟨h_7, hv⟩ := hv
      refine va_iald hx hb hK hP 1 0 rfl rfl h_7 dBx_nextToCut_59 ?_
      refine lv_icmp_le (tgt := 67) hx hb dBx_nextToCut_60 (by decide) (fun c_8 => ?_) (fun c_8 => ?_)
      · have hv := hv.1 c_8
        exact j67 v1 v2 s0 hv _ _ _ hP hS (lv_sub hl [1, 2, 3, 0] rfl)
      · have hv := hv.2 c_8
        refine lv_iconst (v := 1) hx hb dBx_nextToCut_63 (by decide) ?_
        refine lv_goto (tgt := 68) hx hb dBx_nextToCut_64 (by decide) ?_
        exact j68 v1 v2 s0 1 hv _ _ _ hP hS (lv_sub hl [1, 2, 3, 0] rfl)
  rw [eG] at j32
  unfold wpBx_nextToCut at hw
  have hv := hw K4
  have hv := hv (by
    intro v1 v2 hv
    rw [eK4]
    intro H locs ls hP hS hl
    rw [eG]
    unfold vcBx_nextToCut_4 at hv
    refine lv_iload_n hx hb dBx_nextToCut_4 rfl (lv_at hl 2 rfl) ?_
    refine lv_aload_n hx hb dBx_nextToCut_5 rfl (lv_at hl 0 rfl) ?_
    refine va_get (D := (dC, dI)) (ci := 0) (v := .int f_size) (C := RBx) (T := TBx) (N := 7) hx hb hB hiBx hown hK hP 0 rfl rfl 6 (by decide) hL30 (fun _ h9 => h9) rfl dBx_nextToCut_6 ?_
    refine lv_icmp_ge (tgt := 87) hx hb dBx_nextToCut_9 (by decide) (fun c_9 => ?_) (fun c_9 => ?_)
    · have hv := hv.1 c_9
      refine lv_iload_n hx hb dBx_nextToCut_87 rfl (lv_at hl 1 rfl) ?_
      exact W.iret (v := v1) hx hb hr (fun t ht hW => ⟨⟨_, (), rfl, hv, trivial⟩, hS.F ht⟩) hS.2.2 dBx_nextToCut_88
    · have hv := hv.2 c_9
      refine lv_aload_n hx hb dBx_nextToCut_12 rfl (lv_at hl 0 rfl) ?_
      refine va_get (D := (dC, dI)) (ci := 0) (v := .ref q_spread) (C := RBx) (T := TBx) (N := 7) hx hb hB hiBx hown hK hP 0 rfl rfl 4 (by decide) hL21 (fun _ h9 => h9) rfl dBx_nextToCut_13 ?_
      refine lv_iload_n hx hb dBx_nextToCut_16 rfl (lv_at hl 2 rfl) ?_
      obtain ⟨h_10, hv⟩ := hv
      refine va_iald hx hb hK hP 2 1 rfl rfl h_10 dBx_nextToCut_17 ?_
      refine lv_aload_n hx hb dBx_nextToCut_18 rfl (lv_at hl 0 rfl) ?_
      refine va_get (D := (dC, dI)) (ci := 0) (v := .ref q_spread) (C := RBx) (T := TBx) (N := 7) hx hb hB hiBx hown hK hP 0 rfl rfl 4 (by decide) hL21 (fun _ h9 => h9) rfl dBx_nextToCut_19 ?_
      refine lv_iload_n hx hb dBx_nextToCut_22 rfl (lv_at hl 1 rfl) ?_
      obtain ⟨h_11, hv⟩ := hv
      refine va_iald hx hb hK hP 2 1 rfl rfl h_11 dBx_nextToCut_23 ?_
      refine lv_icmp_le (tgt := 31) hx hb dBx_nextToCut_24 (by decide) (fun c_12 => ?_) (fun c_12 => ?_)
      · have hv := hv.1 c_12
        refine lv_iconst (v := 0) hx hb dBx_nextToCut_31 (by decide) ?_
        exact j32 v1 v2 0 hv _ _ _ hP hS (lv_sub hl [0, 1, 2] rfl)
      · have hv := hv.2 c_12
        refine lv_iconst (v := 1) hx hb dBx_nextToCut_27 (by decide) ?_
        refine lv_goto (tgt := 32) hx hb dBx_nextToCut_28 (by decide) ?_
        exact j32 v1 v2 1 hv _ _ _ hP hS (lv_sub hl [0, 1, 2] rfl))
  rw [eG]
  refine lv_iconst (v := 0) hx hb dBx_nextToCut_0 (by decide) ?_
  refine lv_istore_n (lv' := [(1, .int 0), (0, .ref q_this)]) hx hb dBx_nextToCut_1 rfl hl (by decide) rfl (fun ls hl => ?_)
  refine lv_iconst (v := 1) hx hb dBx_nextToCut_2 (by decide) ?_
  refine lv_istore_n (lv' := [(2, .int 1), (1, .int 0), (0, .ref q_this)]) hx hb dBx_nextToCut_3 rfl hl (by decide) rfl (fun ls hl => ?_)
  rw [eK4, eG] at hv
  exact hv _ _ _ hP hS (lv_sub hl [2, 1, 0] rfl)
abbrev wdCL_sink (q_a0 : Nat) (c_a0 : ClassId) (n_a0 : Nat) (f_a0 : Nat → Int64) : va_W := [(q_a0, .inl (c_a0, n_a0, .inr (.inl f_a0)))]
set_option maxHeartbeats 4000000 in
set_option maxRecDepth 100000 in
theorem metCL_sink (l : Launch) (dC : Nat → ClassId) (dI : Nat → Nat → Nat) (q_a0 : Nat) (c_a0 : ClassId) (n_a0 : Nat) (sz : Nat) (f_a0 : Nat → Int64) (x1 : Int32) (x2 : Int32) (x3 : Int32) {post : (Nat → Int64) → Prop} (hw : wpCL_sink n_a0 f_a0 x1 x2 x3 post) : Met l yCL_sink (.code yCL_sink bCL_sink 8 none :: BIG) ({ frames := 0, cells := 0, slots := 0, locals := 0 }) (va_Pc [.ref q_a0, .int x1, .int x2, .int x3] (gx_pre (dC, dI) vwCl (wdCL_sink q_a0 c_a0 n_a0 f_a0) [(c_a0, .long)] sz)) (va_Qv (fun (u : (Nat → Int64)) => post u) (gx_B (dC, dI) vwCl (va_A (wdCL_sink q_a0 c_a0 n_a0 f_a0) sz) (fun (u : (Nat → Int64)) => (wdCL_sink q_a0 c_a0 n_a0 u))) (va_A (wdCL_sink q_a0 c_a0 n_a0 f_a0) sz)) 0 0 (va_A (wdCL_sink q_a0 c_a0 n_a0 f_a0) sz) := by
  refine Met.ofW (cc := bCL_sink) (maxL := 8) (ret := none) (by decide) rfl ?_
  intro p e s m args below meth c s₁ B hml hv
  obtain ⟨rfl, hsz, hP, hK, hD0, hZ⟩ := hv
  have hx := B.exec
  have hb := B.bytes
  have hr := B.returns
  have hts := atoms_spec (ws := (.code yCL_sink bCL_sink 8 none :: BIG)) B.pre
  have hB : ∀ w ∈ BIG, w.before _ s = true := fun w h => hts w (List.mem_cons_of_mem _ h)
  have hown : s.vm.findClass RCL = some m.cls := findClass_of_methodNamed B.named
  have hlocks := B.notSynchronized
  subst hsz
  have hD := hD0.self (sz := s.heap.size)
  generalize hAe : va_A (wdCL_sink q_a0 c_a0 n_a0 f_a0) s.heap.size = A at hD hZ ⊢
  have hA : ∀ q : Nat, s.heap.size ≤ q → A q := fun q h => by rw [← hAe]; exact Or.inr h
  have hS : va_S A s.heap s.heap [] := va_S.rf
  have hl := lv_entry ([.ref q_a0, .int x1, .int x2, .int x3]) (n := 8) (Nat.le_of_ble_eq_true rfl)
  rw [lg_entry_eq]
  generalize (lg_sl ([.ref q_a0, .int x1, .int x2, .int x3]) ++ List.replicate (8 - (lg_sl ([.ref q_a0, .int x1, .int x2, .int x3])).length) Slot.unset).toArray = ls at hl ⊢
  have hl : lv_has ls 8 [(0, .ref q_a0), (1, .int x1), (2, .int x2), (3, .int x3)] := hl
  refine gx_abs (fun G eG => ?_)
  obtain ⟨K17, eK17⟩ : ∃ K : Int64 → Int32 → Int32 → (Nat → Int64) → Prop, K = fun v4 v6 v7 f_a0 => ∀ (H : Heap) (locs : List Loc) (ls : Array Slot), va_P (dC, dI) vwCl (wdCL_sink q_a0 c_a0 n_a0 f_a0) H → va_D A (wdCL_sink q_a0 c_a0 n_a0 f_a0) → va_S A s.heap H locs → lv_has ls 8 [(0, .ref q_a0), (1, .int x1), (3, .int x3), (4, .long v4), (6, .int v6), (7, .int v7)] → G H locs 0 0 (F0 m 17 ls []) := ⟨_, rfl⟩
  have j94 : ∀ (v4 : Int64) (v6 : Int32) (f_a0 : Nat → Int64), vcCL_sink_94 n_a0 x1 x2 x3 K17 post v4 v6 f_a0 → ∀ (H : Heap) (locs : List Loc) (ls : Array Slot), va_P (dC, dI) vwCl (wdCL_sink q_a0 c_a0 n_a0 f_a0) H → va_D A (wdCL_sink q_a0 c_a0 n_a0 f_a0) → va_S A s.heap H locs → lv_has ls 8 [(0, .ref q_a0), (1, .int x1), (4, .long v4), (6, .int v6)] → G H locs 0 0 (F0 m 94 ls []) := by
    intro v4 v6 f_a0 hv H locs ls hP hD hS hl
    rw [eG]
    unfold vcCL_sink_94 at hv
    refine lv_aload_n hx hb dCL_sink_94 rfl (lv_at hl 0 rfl) ?_
    refine lv_iload_n hx hb dCL_sink_95 rfl (lv_at hl 1 rfl) ?_
    refine lv_iload hx hb dCL_sink_96 (lv_at hl 3 rfl) ?_
    refine lv_iadd hx hb dCL_sink_98 ?_
    refine lv_lload hx hb dCL_sink_99 (lv_at hl 2 rfl) ?_
    obtain ⟨h_1, hv⟩ := hv
    refine va_last hx hb hK hP hD hS 0 0 rfl rfl h_1 dCL_sink_101 (fun H locs hP hD hS => ?_)
    have hP : va_P (dC, dI) vwCl (wdCL_sink q_a0 c_a0 n_a0 (vp_updL f_a0 (x1 + v6).toNatClampNeg v4)) H := hP
    have hD : va_D A (wdCL_sink q_a0 c_a0 n_a0 (vp_updL f_a0 (x1 + v6).toNatClampNeg v4)) := hD
    exact W.vret hx hb hr (fun t ht hW => ⟨⟨(vp_updL f_a0 (x1 + v6).toNatClampNeg v4), rfl, hv, by rw [ht]; exact hP, hD⟩, hS.F ht⟩) hS.2.2 dCL_sink_102
  rw [eG] at j94
  have j52 : ∀ (v4 : Int64) (v6 : Int32) (v7 : Int32) (f_a0 : Nat → Int64), vcCL_sink_52 n_a0 x1 x2 x3 K17 post v4 v6 v7 f_a0 → ∀ (H : Heap) (locs : List Loc) (ls : Array Slot), va_P (dC, dI) vwCl (wdCL_sink q_a0 c_a0 n_a0 f_a0) H → va_D A (wdCL_sink q_a0 c_a0 n_a0 f_a0) → va_S A s.heap H locs → lv_has ls 8 [(0, .ref q_a0), (1, .int x1), (3, .int x3), (4, .long v4), (6, .int v6), (7, .int v7)] → G H locs 0 0 (F0 m 52 ls []) := by
    intro v4 v6 v7 f_a0 hv H locs ls hP hD hS hl
    rw [eG]
    unfold vcCL_sink_52 at hv
    refine lv_aload_n hx hb dCL_sink_52 rfl (lv_at hl 0 rfl) ?_
    refine lv_iload_n hx hb dCL_sink_53 rfl (lv_at hl 1 rfl) ?_
    refine lv_iload hx hb dCL_sink_54 (lv_at hl 5 rfl) ?_
    refine lv_iadd hx hb dCL_sink_56 ?_
    obtain ⟨h_3, hv⟩ := hv
    refine va_lald hx hb hK hP 0 0 rfl rfl h_3 dCL_sink_57 ?_
    refine lv_lload hx hb dCL_sink_58 (lv_at hl 3 rfl) ?_
    refine W.lcmp hx hb dCL_sink_60 ?_
    refine lv_if_gt (tgt := 67) hx hb dCL_sink_61 (by decide) (fun c_4 => ?_) (fun c_4 => ?_)
    · have hv := hv.1 c_4
      refine lv_aload_n hx hb dCL_sink_67 rfl (lv_at hl 0 rfl) ?_
      refine lv_iload_n hx hb dCL_sink_68 rfl (lv_at hl 1 rfl) ?_
      refine lv_iload hx hb dCL_sink_69 (lv_at hl 4 rfl) ?_
      refine lv_iadd hx hb dCL_sink_71 ?_
      refine lv_aload_n hx hb dCL_sink_72 rfl (lv_at hl 0 rfl) ?_
      refine lv_iload_n hx hb dCL_sink_73 rfl (lv_at hl 1 rfl) ?_
      refine lv_iload hx hb dCL_sink_74 (lv_at hl 5 rfl) ?_
      refine lv_iadd hx hb dCL_sink_76 ?_
      obtain ⟨h_5, hv⟩ := hv
      refine va_lald hx hb hK hP 0 0 rfl rfl h_5 dCL_sink_77 ?_
      obtain ⟨h_6, hv⟩ := hv
      refine va_last hx hb hK hP hD hS 0 0 rfl rfl h_6 dCL_sink_78 (fun H locs hP hD hS => ?_)
      have hP : va_P (dC, dI) vwCl (wdCL_sink q_a0 c_a0 n_a0 (vp_updL f_a0 (x1 + v6).toNatClampNeg (f_a0 (x1 + v7).toNatClampNeg))) H := hP
      have hD : va_D A (wdCL_sink q_a0 c_a0 n_a0 (vp_updL f_a0 (x1 + v6).toNatClampNeg (f_a0 (x1 + v7).toNatClampNeg))) := hD
      refine lv_iload hx hb dCL_sink_79 (lv_at hl 5 rfl) ?_
      refine lv_istore (lv' := [(6, .int v7), (0, .ref q_a0), (1, .int x1), (3, .int x3), (4, .long v4), (7, .int v7)]) hx hb dCL_sink_81 hl (by decide) rfl (fun ls hl => ?_)
      refine lv_iconst (v := 2) hx hb dCL_sink_83 (by decide) ?_
      refine lv_iload hx hb dCL_sink_84 (lv_at hl 5 rfl) ?_
      refine lv_imul hx hb dCL_sink_86 ?_
      refine lv_iconst (v := 1) hx hb dCL_sink_87 (by decide) ?_
      refine lv_iadd hx hb dCL_sink_88 ?_
      refine lv_topi (fun v7_8 ev7_8 => ?_)
      have hv := hv v7_8 ev7_8
      refine lv_istore (lv' := [(7, .int v7_8), (6, .int v7), (0, .ref q_a0), (1, .int x1), (3, .int x3), (4, .long v4)]) hx hb dCL_sink_89 hl (by decide) rfl (fun ls hl => ?_)
      refine lv_goto (tgt := 17) hx hb dCL_sink_91 (by decide) ?_
      rw [eK17, eG] at hv
      exact hv _ _ _ hP hD hS (lv_sub hl [2, 3, 4, 5, 1, 0] rfl)
    · have hv := hv.2 c_4
      refine lv_goto (tgt := 94) hx hb dCL_sink_64 (by decide) ?_
      exact j94 v4 v6 f_a0 hv _ _ _ hP hD hS (lv_sub hl [0, 1, 3, 4] rfl)
  rw [eG] at j52
  unfold wpCL_sink at hw
  have hv := hw K17
  have hv := hv (by
    intro v4 v6 v7 f_a0 hv
    rw [eK17]
    intro H locs ls hP hD hS hl
    rw [eG]
    unfold vcCL_sink_17 at hv
    refine lv_iload hx hb dCL_sink_17 (lv_at hl 5 rfl) ?_
    refine lv_iload_n hx hb dCL_sink_19 rfl (lv_at hl 2 rfl) ?_
    refine lv_icmp_ge (tgt := 94) hx hb dCL_sink_20 (by decide) (fun c_9 => ?_) (fun c_9 => ?_)
    · have hv := hv.1 c_9
      exact j94 v4 v6 f_a0 hv _ _ _ hP hD hS (lv_sub hl [0, 1, 3, 4] rfl)
    · have hv := hv.2 c_9
      refine lv_iload hx hb dCL_sink_23 (lv_at hl 5 rfl) ?_
      refine lv_iconst (v := 1) hx hb dCL_sink_25 (by decide) ?_
      refine lv_iadd hx hb dCL_sink_26 ?_
      refine lv_iload_n hx hb dCL_sink_27 rfl (lv_at hl 2 rfl) ?_
      refine lv_icmp_ge (tgt := 52) hx hb dCL_sink_28 (by decide) (fun c_10 => ?_) (fun c_10 => ?_)
      · have hv := hv.1 c_10
        exact j52 v4 v6 v7 f_a0 hv _ _ _ hP hD hS (lv_sub hl [0, 1, 2, 3, 4, 5] rfl)
      · have hv := hv.2 c_10
        refine lv_aload_n hx hb dCL_sink_31 rfl (lv_at hl 0 rfl) ?_
        refine lv_iload_n hx hb dCL_sink_32 rfl (lv_at hl 1 rfl) ?_
        refine lv_iload hx hb dCL_sink_33 (lv_at hl 5 rfl) ?_
        refine lv_iadd hx hb dCL_sink_35 ?_
        obtain ⟨h_11, hv⟩ := hv
        refine va_lald hx hb hK hP 0 0 rfl rfl h_11 dCL_sink_36 ?_
        refine lv_aload_n hx hb dCL_sink_37 rfl (lv_at hl 0 rfl) ?_
        refine lv_iload_n hx hb dCL_sink_38 rfl (lv_at hl 1 rfl) ?_
        refine lv_iload hx hb dCL_sink_39 (lv_at hl 5 rfl) ?_
        refine lv_iadd hx hb dCL_sink_41 ?_
        refine lv_iconst (v := 1) hx hb dCL_sink_42 (by decide) ?_
        refine lv_iadd hx hb dCL_sink_43 ?_
        obtain ⟨h_12, hv⟩ := hv
        refine va_lald hx hb hK hP 0 0 rfl rfl h_12 dCL_sink_44 ?_
        refine W.lcmp hx hb dCL_sink_45 ?_
        refine lv_if_ge (tgt := 52) hx hb dCL_sink_46 (by decide) (fun c_13 => ?_) (fun c_13 => ?_)
        · have hv := hv.1 c_13
          exact j52 v4 v6 v7 f_a0 hv _ _ _ hP hD hS (lv_sub hl [0, 1, 2, 3, 4, 5] rfl)
        · have hv := hv.2 c_13
          refine lv_iinc (v := v7 + 1) (lv' := [(7, .int (v7 + 1)), (0, .ref q_a0), (1, .int x1), (3, .int x3), (4, .long v4), (6, .int v6)]) hx hb dCL_sink_49 hl (k := 5) rfl rfl (by decide) rfl (fun ls hl => ?_)
          exact j52 v4 v6 (v7 + 1) f_a0 hv _ _ _ hP hD hS (lv_sub hl [1, 2, 3, 4, 5, 0] rfl))
  rw [eG]
  refine lv_aload_n hx hb dCL_sink_0 rfl (lv_at hl 0 rfl) ?_
  refine lv_iload_n hx hb dCL_sink_1 rfl (lv_at hl 1 rfl) ?_
  refine lv_iload_n hx hb dCL_sink_2 rfl (lv_at hl 2 rfl) ?_
  refine lv_iadd hx hb dCL_sink_3 ?_
  obtain ⟨h_14, hv⟩ := hv
  refine va_lald hx hb hK hP 0 0 rfl rfl h_14 dCL_sink_4 ?_
  refine lv_topl (fun v4_15 ev4_15 => ?_)
  have hv := hv v4_15 ev4_15
  refine lv_lstore (lv' := [(4, .long v4_15), (0, .ref q_a0), (1, .int x1), (2, .int x2), (3, .int x3)]) hx hb dCL_sink_5 hl (by decide) rfl (fun ls hl => ?_)
  refine lv_iload_n hx hb dCL_sink_7 rfl (lv_at hl 3 rfl) ?_
  refine lv_istore (lv' := [(6, .int x2), (4, .long v4_15), (0, .ref q_a0), (1, .int x1), (2, .int x2), (3, .int x3)]) hx hb dCL_sink_8 hl (by decide) rfl (fun ls hl => ?_)
  refine lv_iconst (v := 2) hx hb dCL_sink_10 (by decide) ?_
  refine lv_iload_n hx hb dCL_sink_11 rfl (lv_at hl 4 rfl) ?_
  refine lv_imul hx hb dCL_sink_12 ?_
  refine lv_iconst (v := 1) hx hb dCL_sink_13 (by decide) ?_
  refine lv_iadd hx hb dCL_sink_14 ?_
  refine lv_topi (fun v7_16 ev7_16 => ?_)
  have hv := hv v7_16 ev7_16
  refine lv_istore (lv' := [(7, .int v7_16), (6, .int x2), (4, .long v4_15), (0, .ref q_a0), (1, .int x1), (2, .int x2), (3, .int x3)]) hx hb dCL_sink_15 hl (by decide) rfl (fun ls hl => ?_)
  rw [eK17, eG] at hv
  exact hv _ _ _ hP hD hS (lv_sub hl [3, 4, 6, 2, 1, 0] rfl)
abbrev wdCL_sortKeys (q_a0 : Nat) (c_a0 : ClassId) (n_a0 : Nat) (f_a0 : Nat → Int64) : va_W := [(q_a0, .inl (c_a0, n_a0, .inr (.inl f_a0)))]
set_option maxHeartbeats 4000000 in
set_option maxRecDepth 100000 in
theorem metCL_sortKeys (l : Launch) (dC : Nat → ClassId) (dI : Nat → Nat → Nat) (q_a0 : Nat) (c_a0 : ClassId) (n_a0 : Nat) (sz : Nat) (f_a0 : Nat → Int64) (x1 : Int32) (x2 : Int32) {post : (Nat → Int64) → Prop} (hw : wpCL_sortKeys n_a0 f_a0 x1 x2 post) : Met l yCL_sortKeys (.code yCL_sortKeys bCL_sortKeys 7 none :: BIG) ({ frames := 1, cells := 0, slots := 0, locals := 27 }) (va_Pc [.ref q_a0, .int x1, .int x2] (gx_pre (dC, dI) vwCl (wdCL_sortKeys q_a0 c_a0 n_a0 f_a0) [(c_a0, .long)] sz)) (va_Qv (fun (u : (Nat → Int64)) => post u) (gx_B (dC, dI) vwCl (va_A (wdCL_sortKeys q_a0 c_a0 n_a0 f_a0) sz) (fun (u : (Nat → Int64)) => (wdCL_sortKeys q_a0 c_a0 n_a0 u))) (va_A (wdCL_sortKeys q_a0 c_a0 n_a0 f_a0) sz)) 0 0 (va_A (wdCL_sortKeys q_a0 c_a0 n_a0 f_a0) sz) := by
  refine Met.ofW (cc := bCL_sortKeys) (maxL := 7) (ret := none) (by decide) rfl ?_
  intro p e s m args below meth c s₁ B hml hv
  obtain ⟨rfl, hsz, hP, hK, hD0, hZ⟩ := hv
  have hx := B.exec
  have hb := B.bytes
  have hr := B.returns
  have hts := atoms_spec (ws := (.code yCL_sortKeys bCL_sortKeys 7 none :: BIG)) B.pre
  have hB : ∀ w ∈ BIG, w.before _ s = true := fun w h => hts w (List.mem_cons_of_mem _ h)
  have hown : s.vm.findClass RCL = some m.cls := findClass_of_methodNamed B.named
  have hlocks := B.notSynchronized
  subst hsz
  have hD := hD0.self (sz := s.heap.size)
  generalize hAe : va_A (wdCL_sortKeys q_a0 c_a0 n_a0 f_a0) s.heap.size = A at hD hZ ⊢
  have hA : ∀ q : Nat, s.heap.size ≤ q → A q := fun q h => by rw [← hAe]; exact Or.inr h
  have hS : va_S A s.heap s.heap [] := va_S.rf
  have hl := lv_entry ([.ref q_a0, .int x1, .int x2]) (n := 7) (Nat.le_of_ble_eq_true rfl)
  rw [lg_entry_eq]
  generalize (lg_sl ([.ref q_a0, .int x1, .int x2]) ++ List.replicate (7 - (lg_sl ([.ref q_a0, .int x1, .int x2])).length) Slot.unset).toArray = ls at hl ⊢
  have hl : lv_has ls 7 [(0, .ref q_a0), (1, .int x1), (2, .int x2)] := hl
  refine gx_abs (fun G eG => ?_)
  obtain ⟨K11, eK11⟩ : ∃ K : Int32 → Int32 → (Nat → Int64) → Prop, K = fun v3 v4 f_a0 => ∀ (H : Heap) (locs : List Loc) (ls : Array Slot), va_P (dC, dI) vwCl (wdCL_sortKeys q_a0 c_a0 n_a0 f_a0) H → va_D A (wdCL_sortKeys q_a0 c_a0 n_a0 f_a0) → va_S A s.heap H locs → lv_has ls 7 [(0, .ref q_a0), (1, .int x1), (3, .int v3), (4, .int v4)] → G H locs 0 0 (F0 m 11 ls []) := ⟨_, rfl⟩
  obtain ⟨K35, eK35⟩ : ∃ K : Int32 → (Nat → Int64) → Prop, K = fun v4 f_a0 => ∀ (H : Heap) (locs : List Loc) (ls : Array Slot), va_P (dC, dI) vwCl (wdCL_sortKeys q_a0 c_a0 n_a0 f_a0) H → va_D A (wdCL_sortKeys q_a0 c_a0 n_a0 f_a0) → va_S A s.heap H locs → lv_has ls 7 [(0, .ref q_a0), (1, .int x1), (4, .int v4)] → G H locs 0 0 (F0 m 35 ls []) := ⟨_, rfl⟩
  unfold wpCL_sortKeys at hw
  have hv := hw K11 K35
  have hv := hv (by
    intro v3 v4 f_a0 hv
    rw [eK11]
    intro H locs ls hP hD hS hl
    rw [eG]
    unfold vcCL_sortKeys_11 at hv
    refine lv_iload hx hb dCL_sortKeys_11 (lv_at hl 3 rfl) ?_
    refine lv_if_lt (tgt := 30) hx hb dCL_sortKeys_13 (by decide) (fun c_1 => ?_) (fun c_1 => ?_)
    · have hv := hv.1 c_1
      refine lv_iload_n hx hb dCL_sortKeys_30 rfl (lv_at hl 2 rfl) ?_
      refine lv_iconst (v := 1) hx hb dCL_sortKeys_31 (by decide) ?_
      refine lv_isub hx hb dCL_sortKeys_32 ?_
      refine lv_topi (fun v4_2 ev4_2 => ?_)
      have hv := hv v4_2 ev4_2
      refine lv_istore (lv' := [(4, .int v4_2), (0, .ref q_a0), (1, .int x1), (3, .int v3)]) hx hb dCL_sortKeys_33 hl (by decide) rfl (fun ls hl => ?_)
      rw [eK35, eG] at hv
      exact hv _ _ _ hP hD hS (lv_sub hl [1, 2, 0] rfl)
    · have hv := hv.2 c_1
      refine lv_aload_n hx hb dCL_sortKeys_16 rfl (lv_at hl 0 rfl) ?_
      refine lv_iload_n hx hb dCL_sortKeys_17 rfl (lv_at hl 1 rfl) ?_
      refine lv_iload hx hb dCL_sortKeys_18 (lv_at hl 3 rfl) ?_
      refine lv_iload_n hx hb dCL_sortKeys_20 rfl (lv_at hl 2 rfl) ?_
      have hFc := va_free (wc := (wdCL_sink q_a0 c_a0 n_a0 f_a0)) hD hS hA [0] rfl
      refine gx_v (wr := []) (va_runS (As := [.ref q_a0, .int x1, .int v4, .int v3]) (rest := []) ⟨hx, hb, hml, hown, hB⟩ (metCL_sink l dC dI q_a0 c_a0 n_a0 H.size f_a0 x1 v4 v3 hv) (va_cwS 4 hB (gx_gS bw236 bw237 bw44 bw238) rfl rfl rfl (by decide +kernel) ⟨(Nat.le_of_ble_eq_true rfl), (Nat.le_of_ble_eq_true rfl)⟩) (gx_preS (hP.sub (ws' := (wdCL_sink q_a0 c_a0 n_a0 f_a0)) [0] rfl) (hK.sub (tys' := [(c_a0, .long)]) [0] rfl) (hD.sub (ws' := (wdCL_sink q_a0 c_a0 n_a0 f_a0)) [0] (by decide) rfl) hZ hS hFc) rfl rfl hl.1 rfl (lv_room (Nat.le_of_ble_eq_true rfl)) dCL_sortKeys_21 ⟨(Nat.le_of_ble_eq_true rfl), (Nat.le_of_ble_eq_true rfl)⟩) hP hD hS hFc [0] [] rfl rfl (by decide) (by decide) (fun u_4 H locs hv hP hD hS => ?_)
      obtain ⟨f_a0_3, rfl⟩ : ∃ z, z = u_4 := ⟨_, rfl⟩
      have hP : va_P (dC, dI) vwCl (wdCL_sortKeys q_a0 c_a0 n_a0 f_a0_3) H := hP.sub [0] rfl
      have hD : va_D A (wdCL_sortKeys q_a0 c_a0 n_a0 f_a0_3) := hD.sub [0] (by decide) rfl
      refine lv_iinc (v := v4 + (-1)) (lv' := [(4, .int (v4 + (-1))), (0, .ref q_a0), (1, .int x1), (3, .int v3)]) hx hb dCL_sortKeys_24 hl (k := 3) rfl rfl (by decide) rfl (fun ls hl => ?_)
      refine lv_goto (tgt := 11) hx hb dCL_sortKeys_27 (by decide) ?_
      rw [eK11, eG] at hv
      exact hv _ _ _ hP hD hS (lv_sub hl [1, 2, 3, 0] rfl))
  have hv := hv (by
    intro v4 f_a0 hv
    rw [eK35]
    intro H locs ls hP hD hS hl
    rw [eG]
    unfold vcCL_sortKeys_35 at hv
    refine lv_iload hx hb dCL_sortKeys_35 (lv_at hl 2 rfl) ?_
    refine lv_if_le (tgt := 76) hx hb dCL_sortKeys_37 (by decide) (fun c_5 => ?_) (fun c_5 => ?_)
    · have hv := hv.1 c_5
      exact W.vret hx hb hr (fun t ht hW => ⟨⟨f_a0, rfl, hv, by rw [ht]; exact hP, hD⟩, hS.F ht⟩) hS.2.2 dCL_sortKeys_76
    · have hv := hv.2 c_5
      refine lv_aload_n hx hb dCL_sortKeys_40 rfl (lv_at hl 0 rfl) ?_
      refine lv_iload_n hx hb dCL_sortKeys_41 rfl (lv_at hl 1 rfl) ?_
      obtain ⟨h_6, hv⟩ := hv
      refine va_lald hx hb hK hP 0 0 rfl rfl h_6 dCL_sortKeys_42 ?_
      refine lv_topl (fun v5_7 ev5_7 => ?_)
      have hv := hv v5_7 ev5_7
      refine lv_lstore (lv' := [(5, .long v5_7), (0, .ref q_a0), (1, .int x1), (4, .int v4)]) hx hb dCL_sortKeys_43 hl (by decide) rfl (fun ls hl => ?_)
      refine lv_aload_n hx hb dCL_sortKeys_45 rfl (lv_at hl 1 rfl) ?_
      refine lv_iload_n hx hb dCL_sortKeys_46 rfl (lv_at hl 2 rfl) ?_
      refine lv_aload_n hx hb dCL_sortKeys_47 rfl (lv_at hl 1 rfl) ?_
      refine lv_iload_n hx hb dCL_sortKeys_48 rfl (lv_at hl 2 rfl) ?_
      refine lv_iload hx hb dCL_sortKeys_49 (lv_at hl 3 rfl) ?_
      refine lv_iadd hx hb dCL_sortKeys_51 ?_
      obtain ⟨h_8, hv⟩ := hv
      refine va_lald hx hb hK hP 0 0 rfl rfl h_8 dCL_sortKeys_52 ?_
      obtain ⟨h_9, hv⟩ := hv
      refine va_last hx hb hK hP hD hS 0 0 rfl rfl h_9 dCL_sortKeys_53 (fun H locs hP hD hS => ?_)
      have hP : va_P (dC, dI) vwCl (wdCL_sortKeys q_a0 c_a0 n_a0 (vp_updL f_a0 x1.toNatClampNeg (f_a0 (x1 + v4).toNatClampNeg))) H := hP
      have hD : va_D A (wdCL_sortKeys q_a0 c_a0 n_a0 (vp_updL f_a0 x1.toNatClampNeg (f_a0 (x1 + v4).toNatClampNeg))) := hD
      refine lv_aload_n hx hb dCL_sortKeys_54 rfl (lv_at hl 1 rfl) ?_
      refine lv_iload_n hx hb dCL_sortKeys_55 rfl (lv_at hl 2 rfl) ?_
      refine lv_iload hx hb dCL_sortKeys_56 (lv_at hl 3 rfl) ?_
      refine lv_iadd hx hb dCL_sortKeys_58 ?_
      refine lv_lload hx hb dCL_sortKeys_59 (lv_at hl 0 rfl) ?_
      obtain ⟨h_11, hv⟩ := hv
      refine va_last hx hb hK hP hD hS 0 0 rfl rfl h_11 dCL_sortKeys_61 (fun H locs hP hD hS => ?_)
      have hP : va_P (dC, dI) vwCl (wdCL_sortKeys q_a0 c_a0 n_a0 (vp_updL (vp_updL f_a0 x1.toNatClampNeg (f_a0 (x1 + v4).toNatClampNeg)) (x1 + v4).toNatClampNeg v5_7)) H := hP
      have hD : va_D A (wdCL_sortKeys q_a0 c_a0 n_a0 (vp_updL (vp_updL f_a0 x1.toNatClampNeg (f_a0 (x1 + v4).toNatClampNeg)) (x1 + v4).toNatClampNeg v5_7)) := hD
      refine lv_aload_n hx hb dCL_sortKeys_62 rfl (lv_at hl 1 rfl) ?_
      refine lv_iload_n hx hb dCL_sortKeys_63 rfl (lv_at hl 2 rfl) ?_
      refine lv_iconst (v := 0) hx hb dCL_sortKeys_64 (by decide) ?_
      refine lv_iload hx hb dCL_sortKeys_65 (lv_at hl 3 rfl) ?_
      have hFc := va_free (wc := (wdCL_sink q_a0 c_a0 n_a0 (vp_updL (vp_updL f_a0 x1.toNatClampNeg (f_a0 (x1 + v4).toNatClampNeg)) (x1 + v4).toNatClampNeg v5_7))) hD hS hA [0] rfl
      refine gx_v (wr := []) (va_runS (As := [.ref q_a0, .int x1, .int 0, .int v4]) (rest := []) ⟨hx, hb, hml, hown, hB⟩ (metCL_sink l dC dI q_a0 c_a0 n_a0 H.size (vp_updL (vp_updL f_a0 x1.toNatClampNeg (f_a0 (x1 + v4).toNatClampNeg)) (x1 + v4).toNatClampNeg v5_7) x1 0 v4 hv) (va_cwS 4 hB (gx_gS bw236 bw237 bw44 bw238) rfl rfl rfl (by decide +kernel) ⟨(Nat.le_of_ble_eq_true rfl), (Nat.le_of_ble_eq_true rfl)⟩) (gx_preS (hP.sub (ws' := (wdCL_sink q_a0 c_a0 n_a0 (vp_updL (vp_updL f_a0 x1.toNatClampNeg (f_a0 (x1 + v4).toNatClampNeg)) (x1 + v4).toNatClampNeg v5_7))) [0] rfl) (hK.sub (tys' := [(c_a0, .long)]) [0] rfl) (hD.sub (ws' := (wdCL_sink q_a0 c_a0 n_a0 (vp_updL (vp_updL f_a0 x1.toNatClampNeg (f_a0 (x1 + v4).toNatClampNeg)) (x1 + v4).toNatClampNeg v5_7))) [0] (by decide) rfl) hZ hS hFc) rfl rfl hl.1 rfl (lv_room (Nat.le_of_ble_eq_true rfl)) dCL_sortKeys_67 ⟨(Nat.le_of_ble_eq_true rfl), (Nat.le_of_ble_eq_true rfl)⟩) hP hD hS hFc [0] [] rfl rfl (by decide) (by decide) (fun u_14 H locs hv hP hD hS => ?_)
      obtain ⟨f_a0_13, rfl⟩ : ∃ z, z = u_14 := ⟨_, rfl⟩
      have hP : va_P (dC, dI) vwCl (wdCL_sortKeys q_a0 c_a0 n_a0 f_a0_13) H := hP.sub [0] rfl
      have hD : va_D A (wdCL_sortKeys q_a0 c_a0 n_a0 f_a0_13) := hD.sub [0] (by decide) rfl
      refine lv_iinc (v := v4 + (-1)) (lv' := [(4, .int (v4 + (-1))), (5, .long v5_7), (0, .ref q_a0), (1, .int x1)]) hx hb dCL_sortKeys_70 hl (k := 3) rfl rfl (by decide) rfl (fun ls hl => ?_)
      refine lv_goto (tgt := 35) hx hb dCL_sortKeys_73 (by decide) ?_
      rw [eK35, eG] at hv
      exact hv _ _ _ hP hD hS (lv_sub hl [2, 3, 0] rfl))
  rw [eG]
  refine lv_iload_n hx hb dCL_sortKeys_0 rfl (lv_at hl 2 rfl) ?_
  refine lv_iload_n hx hb dCL_sortKeys_1 rfl (lv_at hl 1 rfl) ?_
  refine lv_isub hx hb dCL_sortKeys_2 ?_
  refine lv_topi (fun v3_15 ev3_15 => ?_)
  have hv := hv v3_15 ev3_15
  refine lv_istore_n (lv' := [(3, .int v3_15), (0, .ref q_a0), (1, .int x1), (2, .int x2)]) hx hb dCL_sortKeys_3 rfl hl (by decide) rfl (fun ls hl => ?_)
  refine lv_iload_n hx hb dCL_sortKeys_4 rfl (lv_at hl 0 rfl) ?_
  refine lv_iconst (v := 2) hx hb dCL_sortKeys_5 (by decide) ?_
  obtain ⟨h_16, hv⟩ := hv
  refine lv_idiv hx hb dCL_sortKeys_6 h_16 ?_
  refine lv_iconst (v := 1) hx hb dCL_sortKeys_7 (by decide) ?_
  refine lv_isub hx hb dCL_sortKeys_8 ?_
  refine lv_topi (fun v4_17 ev4_17 => ?_)
  have hv := hv v4_17 ev4_17
  refine lv_istore (lv' := [(4, .int v4_17), (3, .int v3_15), (0, .ref q_a0), (1, .int x1), (2, .int x2)]) hx hb dCL_sortKeys_9 hl (by decide) rfl (fun ls hl => ?_)
  rw [eK11, eG] at hv
  exact hv _ _ _ hP hD hS (lv_sub hl [2, 3, 1, 0] rfl)
abbrev wdBx_sortAlongWidest (q_this q_row q_start q_end q_widest q_shades q_shades_tint q_shades_keys r_weight r_spread r_shades_many r_shades_rank : Nat) (c_row c_start c_end c_widest c_shades_tint c_shades_keys : ClassId) (n_row n_start n_end n_widest n_shades_tint n_shades_keys : Nat) (f_size : Int32) (f_row : Nat → Int32) (f_start : Nat → Int32) (f_end : Nat → Int32) (f_widest : Nat → Int32) (f_shades_size : Int32) (f_shades_stale : Int32) (f_shades_tint : Nat → Int32) (f_shades_keys : Nat → Int64) : va_W := [(q_this, .inr (0, [.ref q_row, .ref q_start, .ref q_end, .ref r_weight, .ref r_spread, .ref q_widest, .int f_size])), (q_row, .inl (c_row, n_row, .inl f_row)), (q_start, .inl (c_start, n_start, .inl f_start)), (q_end, .inl (c_end, n_end, .inl f_end)), (q_widest, .inl (c_widest, n_widest, .inl f_widest)), (q_shades, .inr (6, [.ref q_shades_tint, .ref r_shades_many, .ref r_shades_rank, .ref q_shades_keys, .int f_shades_size, .int f_shades_stale])), (q_shades_tint, .inl (c_shades_tint, n_shades_tint, .inl f_shades_tint)), (q_shades_keys, .inl (c_shades_keys, n_shades_keys, .inr (.inl f_shades_keys)))]
set_option maxHeartbeats 4000000 in
set_option maxRecDepth 100000 in
theorem metBx_sortAlongWidest (l : Launch) (dC : Nat → ClassId) (dI : Nat → Nat → Nat) (q_this q_row q_start q_end q_widest q_shades q_shades_tint q_shades_keys r_weight r_spread r_shades_many r_shades_rank : Nat) (c_row c_start c_end c_widest c_shades_tint c_shades_keys : ClassId) (n_row n_start n_end n_widest n_shades_tint n_shades_keys : Nat) (sz : Nat) (f_size : Int32) (f_row : Nat → Int32) (f_start : Nat → Int32) (f_end : Nat → Int32) (f_widest : Nat → Int32) (f_shades_size : Int32) (f_shades_stale : Int32) (f_shades_tint : Nat → Int32) (f_shades_keys : Nat → Int64) (x1 : Int32) {post : (Nat → Int32) → (Nat → Int64) → Prop} (hw : wpBx_sortAlongWidest n_row n_start n_end n_widest n_shades_tint n_shades_keys f_size f_row f_start f_end f_widest f_shades_size f_shades_stale f_shades_tint f_shades_keys x1 post) : Met l yBx_sortAlongWidest (.code yBx_sortAlongWidest bBx_sortAlongWidest 5 none :: BIG) ({ frames := 2, cells := 0, slots := 0, locals := 53 }) (va_Pc [.ref q_this, .int x1, .ref q_shades] (gx_pre (dC, dI) vwCl (wdBx_sortAlongWidest q_this q_row q_start q_end q_widest q_shades q_shades_tint q_shades_keys r_weight r_spread r_shades_many r_shades_rank c_row c_start c_end c_widest c_shades_tint c_shades_keys n_row n_start n_end n_widest n_shades_tint n_shades_keys f_size f_row f_start f_end f_widest f_shades_size f_shades_stale f_shades_tint f_shades_keys) [(c_row, .int), (c_start, .int), (c_end, .int), (c_widest, .int), (c_shades_tint, .int), (c_shades_keys, .long)] sz)) (va_Qv (fun (u : (Nat → Int32) × (Nat → Int64)) => post u.1 u.2) (gx_B (dC, dI) vwCl (va_A (wdBx_sortAlongWidest q_this q_row q_start q_end q_widest q_shades q_shades_tint q_shades_keys r_weight r_spread r_shades_many r_shades_rank c_row c_start c_end c_widest c_shades_tint c_shades_keys n_row n_start n_end n_widest n_shades_tint n_shades_keys f_size f_row f_start f_end f_widest f_shades_size f_shades_stale f_shades_tint f_shades_keys) sz) (fun (u : (Nat → Int32) × (Nat → Int64)) => (wdBx_sortAlongWidest q_this q_row q_start q_end q_widest q_shades q_shades_tint q_shades_keys r_weight r_spread r_shades_many r_shades_rank c_row c_start c_end c_widest c_shades_tint c_shades_keys n_row n_start n_end n_widest n_shades_tint n_shades_keys f_size u.1 f_start f_end f_widest f_shades_size f_shades_stale f_shades_tint u.2))) (va_A (wdBx_sortAlongWidest q_this q_row q_start q_end q_widest q_shades q_shades_tint q_shades_keys r_weight r_spread r_shades_many r_shades_rank c_row c_start c_end c_widest c_shades_tint c_shades_keys n_row n_start n_end n_widest n_shades_tint n_shades_keys f_size f_row f_start f_end f_widest f_shades_size f_shades_stale f_shades_tint f_shades_keys) sz)) 0 0 (va_A (wdBx_sortAlongWidest q_this q_row q_start q_end q_widest q_shades q_shades_tint q_shades_keys r_weight r_spread r_shades_many r_shades_rank c_row c_start c_end c_widest c_shades_tint c_shades_keys n_row n_start n_end n_widest n_shades_tint n_shades_keys f_size f_row f_start f_end f_widest f_shades_size f_shades_stale f_shades_tint f_shades_keys) sz) := by
  refine Met.ofW (cc := bBx_sortAlongWidest) (maxL := 5) (ret := none) (by decide) rfl ?_
  intro p e s m args below meth c s₁ B hml hv
  obtain ⟨rfl, hsz, hP, hK, hD0, hZ⟩ := hv
  have hx := B.exec
  have hb := B.bytes
  have hr := B.returns
  have hts := atoms_spec (ws := (.code yBx_sortAlongWidest bBx_sortAlongWidest 5 none :: BIG)) B.pre
  have hB : ∀ w ∈ BIG, w.before _ s = true := fun w h => hts w (List.mem_cons_of_mem _ h)
  have hown : s.vm.findClass RBx = some m.cls := findClass_of_methodNamed B.named
  have hlocks := B.notSynchronized
  subst hsz
  have hD := hD0.self (sz := s.heap.size)
  generalize hAe : va_A (wdBx_sortAlongWidest q_this q_row q_start q_end q_widest q_shades q_shades_tint q_shades_keys r_weight r_spread r_shades_many r_shades_rank c_row c_start c_end c_widest c_shades_tint c_shades_keys n_row n_start n_end n_widest n_shades_tint n_shades_keys f_size f_row f_start f_end f_widest f_shades_size f_shades_stale f_shades_tint f_shades_keys) s.heap.size = A at hD hZ ⊢
  have hA : ∀ q : Nat, s.heap.size ≤ q → A q := fun q h => by rw [← hAe]; exact Or.inr h
  have hS : va_S A s.heap s.heap [] := va_S.rf
  have hl := lv_entry ([.ref q_this, .int x1, .ref q_shades]) (n := 5) (Nat.le_of_ble_eq_true rfl)
  rw [lg_entry_eq]
  generalize (lg_sl ([.ref q_this, .int x1, .ref q_shades]) ++ List.replicate (5 - (lg_sl ([.ref q_this, .int x1, .ref q_shades])).length) Slot.unset).toArray = ls at hl ⊢
  have hl : lv_has ls 5 [(0, .ref q_this), (1, .int x1), (2, .ref q_shades)] := hl
  have hL9 := (hB _ bw118)
  have hL15 := (hB _ bw119)
  have hL24 := (hB _ bw122)
  have hL27 := (hB _ bw117)
  have hL58 := (hB _ bw86)
  have hL84 := (hB _ bw96)
  refine gx_abs (fun G eG => ?_)
  obtain ⟨K7, eK7⟩ : ∃ K : Int32 → (Nat → Int32) → (Nat → Int64) → Prop, K = fun v3 f_row f_shades_keys => ∀ (H : Heap) (locs : List Loc) (ls : Array Slot), va_P (dC, dI) vwCl (wdBx_sortAlongWidest q_this q_row q_start q_end q_widest q_shades q_shades_tint q_shades_keys r_weight r_spread r_shades_many r_shades_rank c_row c_start c_end c_widest c_shades_tint c_shades_keys n_row n_start n_end n_widest n_shades_tint n_shades_keys f_size f_row f_start f_end f_widest f_shades_size f_shades_stale f_shades_tint f_shades_keys) H → va_D A (wdBx_sortAlongWidest q_this q_row q_start q_end q_widest q_shades q_shades_tint q_shades_keys r_weight r_spread r_shades_many r_shades_rank c_row c_start c_end c_widest c_shades_tint c_shades_keys n_row n_start n_end n_widest n_shades_tint n_shades_keys f_size f_row f_start f_end f_widest f_shades_size f_shades_stale f_shades_tint f_shades_keys) → va_S A s.heap H locs → lv_has ls 5 [(0, .ref q_this), (1, .int x1), (2, .ref q_shades), (3, .int v3)] → G H locs 0 0 (F0 m 7 ls []) := ⟨_, rfl⟩
  obtain ⟨K91, eK91⟩ : ∃ K : Int32 → (Nat → Int32) → (Nat → Int64) → Prop, K = fun v3 f_row f_shades_keys => ∀ (H : Heap) (locs : List Loc) (ls : Array Slot), va_P (dC, dI) vwCl (wdBx_sortAlongWidest q_this q_row q_start q_end q_widest q_shades q_shades_tint q_shades_keys r_weight r_spread r_shades_many r_shades_rank c_row c_start c_end c_widest c_shades_tint c_shades_keys n_row n_start n_end n_widest n_shades_tint n_shades_keys f_size f_row f_start f_end f_widest f_shades_size f_shades_stale f_shades_tint f_shades_keys) H → va_D A (wdBx_sortAlongWidest q_this q_row q_start q_end q_widest q_shades q_shades_tint q_shades_keys r_weight r_spread r_shades_many r_shades_rank c_row c_start c_end c_widest c_shades_tint c_shades_keys n_row n_start n_end n_widest n_shades_tint n_shades_keys f_size f_row f_start f_end f_widest f_shades_size f_shades_stale f_shades_tint f_shades_keys) → va_S A s.heap H locs → lv_has ls 5 [(0, .ref q_this), (1, .int x1), (2, .ref q_shades), (3, .int v3)] → G H locs 0 0 (F0 m 91 ls []) := ⟨_, rfl⟩
  unfold wpBx_sortAlongWidest at hw
  have hv := hw K7 K91
  have hv := hv (by
    intro v3 f_row f_shades_keys hv
    rw [eK7]
    intro H locs ls hP hD hS hl
    rw [eG]
    unfold vcBx_sortAlongWidest_7 at hv
    refine lv_iload_n hx hb dBx_sortAlongWidest_7 rfl (lv_at hl 3 rfl) ?_
    refine lv_aload_n hx hb dBx_sortAlongWidest_8 rfl (lv_at hl 0 rfl) ?_
    refine va_get (D := (dC, dI)) (ci := 0) (v := .ref q_end) (C := RBx) (T := TBx) (N := 7) hx hb hB hiBx hown hK hP 0 rfl rfl 2 (by decide) hL15 (fun _ h9 => h9) rfl dBx_sortAlongWidest_9 ?_
    refine lv_iload_n hx hb dBx_sortAlongWidest_12 rfl (lv_at hl 1 rfl) ?_
    obtain ⟨h_1, hv⟩ := hv
    refine va_iald hx hb hK hP 3 2 rfl rfl h_1 dBx_sortAlongWidest_13 ?_
    refine lv_icmp_ge (tgt := 65) hx hb dBx_sortAlongWidest_14 (by decide) (fun c_2 => ?_) (fun c_2 => ?_)
    · have hv := hv.1 c_2
      refine lv_aload_n hx hb dBx_sortAlongWidest_65 rfl (lv_at hl 2 rfl) ?_
      refine va_get (D := (dC, dI)) (ci := 6) (v := .ref q_shades_keys) (C := RSh) (T := TSh) (N := 6) hx hb hB hiSh hown hK hP 5 rfl rfl 3 (by decide) hL84 (fun _ h9 => h9) rfl dBx_sortAlongWidest_66 ?_
      refine lv_aload_n hx hb dBx_sortAlongWidest_69 rfl (lv_at hl 0 rfl) ?_
      refine va_get (D := (dC, dI)) (ci := 0) (v := .ref q_start) (C := RBx) (T := TBx) (N := 7) hx hb hB hiBx hown hK hP 0 rfl rfl 1 (by decide) hL9 (fun _ h9 => h9) rfl dBx_sortAlongWidest_70 ?_
      refine lv_iload_n hx hb dBx_sortAlongWidest_73 rfl (lv_at hl 1 rfl) ?_
      obtain ⟨h_3, hv⟩ := hv
      refine va_iald hx hb hK hP 2 1 rfl rfl h_3 dBx_sortAlongWidest_74 ?_
      refine lv_aload_n hx hb dBx_sortAlongWidest_75 rfl (lv_at hl 0 rfl) ?_
      refine va_get (D := (dC, dI)) (ci := 0) (v := .ref q_end) (C := RBx) (T := TBx) (N := 7) hx hb hB hiBx hown hK hP 0 rfl rfl 2 (by decide) hL15 (fun _ h9 => h9) rfl dBx_sortAlongWidest_76 ?_
      refine lv_iload_n hx hb dBx_sortAlongWidest_79 rfl (lv_at hl 1 rfl) ?_
      obtain ⟨h_4, hv⟩ := hv
      refine va_iald hx hb hK hP 3 2 rfl rfl h_4 dBx_sortAlongWidest_80 ?_
      have hFc := va_free (wc := (wdCL_sortKeys q_shades_keys c_shades_keys n_shades_keys f_shades_keys)) hD hS hA [7] rfl
      refine gx_v (wr := [(q_this, .inr (0, [.ref q_row, .ref q_start, .ref q_end, .ref r_weight, .ref r_spread, .ref q_widest, .int f_size])), (q_row, .inl (c_row, n_row, .inl f_row)), (q_start, .inl (c_start, n_start, .inl f_start)), (q_end, .inl (c_end, n_end, .inl f_end)), (q_widest, .inl (c_widest, n_widest, .inl f_widest)), (q_shades, .inr (6, [.ref q_shades_tint, .ref r_shades_many, .ref r_shades_rank, .ref q_shades_keys, .int f_shades_size, .int f_shades_stale])), (q_shades_tint, .inl (c_shades_tint, n_shades_tint, .inl f_shades_tint))]) (va_runSN (As := [.ref q_shades_keys, .int (f_start x1.toNatClampNeg), .int (f_end x1.toNatClampNeg)]) (rest := []) ⟨hx, hb, hml, hown, hB⟩ (metCL_sortKeys l dC dI q_shades_keys c_shades_keys n_shades_keys H.size f_shades_keys (f_start x1.toNatClampNeg) (f_end x1.toNatClampNeg) hv) ⟨va_cnB 3 hB (gx_gN bw235) rfl rfl rfl (hZ.1 _ (List.mem_of_getElem? (i := 14) rfl)) (hB _ bw44) (by decide +kernel) ⟨(Nat.le_of_ble_eq_true rfl), (Nat.le_of_ble_eq_true rfl)⟩, (hB _ bw234), trivial⟩ (gx_preS (hP.sub (ws' := (wdCL_sortKeys q_shades_keys c_shades_keys n_shades_keys f_shades_keys)) [7] rfl) (hK.sub (tys' := [(c_shades_keys, .long)]) [5] rfl) (hD.sub (ws' := (wdCL_sortKeys q_shades_keys c_shades_keys n_shades_keys f_shades_keys)) [7] (by decide) rfl) hZ hS hFc) rfl rfl hl.1 rfl (lv_room (Nat.le_of_ble_eq_true rfl)) dBx_sortAlongWidest_81 ⟨(Nat.le_of_ble_eq_true rfl), (Nat.le_of_ble_eq_true rfl)⟩) hP hD hS hFc [7] [0, 1, 2, 3, 4, 5, 6] rfl rfl (by decide) (by decide) (fun u_6 H locs hv hP hD hS => ?_)
      obtain ⟨f_shades_keys_5, rfl⟩ : ∃ z, z = u_6 := ⟨_, rfl⟩
      have hP : va_P (dC, dI) vwCl (wdBx_sortAlongWidest q_this q_row q_start q_end q_widest q_shades q_shades_tint q_shades_keys r_weight r_spread r_shades_many r_shades_rank c_row c_start c_end c_widest c_shades_tint c_shades_keys n_row n_start n_end n_widest n_shades_tint n_shades_keys f_size f_row f_start f_end f_widest f_shades_size f_shades_stale f_shades_tint f_shades_keys_5) H := hP.sub [0, 1, 2, 3, 4, 5, 6, 7] rfl
      have hD : va_D A (wdBx_sortAlongWidest q_this q_row q_start q_end q_widest q_shades q_shades_tint q_shades_keys r_weight r_spread r_shades_many r_shades_rank c_row c_start c_end c_widest c_shades_tint c_shades_keys n_row n_start n_end n_widest n_shades_tint n_shades_keys f_size f_row f_start f_end f_widest f_shades_size f_shades_stale f_shades_tint f_shades_keys_5) := hD.sub [0, 1, 2, 3, 4, 5, 6, 7] (by decide) rfl
      refine lv_aload_n hx hb dBx_sortAlongWidest_84 rfl (lv_at hl 0 rfl) ?_
      refine va_get (D := (dC, dI)) (ci := 0) (v := .ref q_start) (C := RBx) (T := TBx) (N := 7) hx hb hB hiBx hown hK hP 0 rfl rfl 1 (by decide) hL9 (fun _ h9 => h9) rfl dBx_sortAlongWidest_85 ?_
      refine lv_iload_n hx hb dBx_sortAlongWidest_88 rfl (lv_at hl 1 rfl) ?_
      obtain ⟨h_7, hv⟩ := hv
      refine va_iald hx hb hK hP 2 1 rfl rfl h_7 dBx_sortAlongWidest_89 ?_
      refine lv_topi (fun v3_8 ev3_8 => ?_)
      have hv := hv v3_8 ev3_8
      refine lv_istore_n (lv' := [(3, .int v3_8), (0, .ref q_this), (1, .int x1), (2, .ref q_shades)]) hx hb dBx_sortAlongWidest_90 rfl hl (by decide) rfl (fun ls hl => ?_)
      rw [eK91, eG] at hv
      exact hv _ _ _ hP hD hS (lv_sub hl [1, 2, 3, 0] rfl)
    · have hv := hv.2 c_2
      refine lv_aload_n hx hb dBx_sortAlongWidest_17 rfl (lv_at hl 2 rfl) ?_
      refine va_get (D := (dC, dI)) (ci := 6) (v := .ref q_shades_tint) (C := RSh) (T := TSh) (N := 6) hx hb hB hiSh hown hK hP 5 rfl rfl 0 (by decide) hL58 (fun _ h9 => h9) rfl dBx_sortAlongWidest_18 ?_
      refine lv_aload_n hx hb dBx_sortAlongWidest_21 rfl (lv_at hl 0 rfl) ?_
      refine va_get (D := (dC, dI)) (ci := 0) (v := .ref q_row) (C := RBx) (T := TBx) (N := 7) hx hb hB hiBx hown hK hP 0 rfl rfl 0 (by decide) hL27 (fun _ h9 => h9) rfl dBx_sortAlongWidest_22 ?_
      refine lv_iload_n hx hb dBx_sortAlongWidest_25 rfl (lv_at hl 3 rfl) ?_
      obtain ⟨h_9, hv⟩ := hv
      refine va_iald hx hb hK hP 1 0 rfl rfl h_9 dBx_sortAlongWidest_26 ?_
      obtain ⟨h_10, hv⟩ := hv
      refine va_iald hx hb hK hP 6 4 rfl rfl h_10 dBx_sortAlongWidest_27 ?_
      refine lv_aload_n hx hb dBx_sortAlongWidest_28 rfl (lv_at hl 0 rfl) ?_
      refine va_get (D := (dC, dI)) (ci := 0) (v := .ref q_widest) (C := RBx) (T := TBx) (N := 7) hx hb hB hiBx hown hK hP 0 rfl rfl 5 (by decide) hL24 (fun _ h9 => h9) rfl dBx_sortAlongWidest_29 ?_
      refine lv_iload_n hx hb dBx_sortAlongWidest_32 rfl (lv_at hl 1 rfl) ?_
      obtain ⟨h_11, hv⟩ := hv
      refine va_iald hx hb hK hP 4 3 rfl rfl h_11 dBx_sortAlongWidest_33 ?_
      refine gx_ri (va_runSN (As := [.int (f_shades_tint (f_row v3.toNatClampNeg).toNatClampNeg), .int (f_widest x1.toNatClampNeg)]) (rest := []) ⟨hx, hb, hml, hown, hB⟩ (metCL_levelOf l dC dI H.size (f_shades_tint (f_row v3.toNatClampNeg).toNatClampNeg) (f_widest x1.toNatClampNeg) hv) ⟨va_cnB 2 hB (gx_gN bw364) rfl rfl rfl (hZ.1 _ (List.mem_of_getElem? (i := 13) rfl)) (hB _ bw44) (by decide +kernel) ⟨(Nat.le_of_ble_eq_true rfl), (Nat.le_of_ble_eq_true rfl)⟩, (hB _ bw363), trivial⟩ (gx_rpreS (hP.sub (ws' := wdCL_levelOf) [] rfl) (hK.sub (tys' := []) [] rfl) hZ hS hA) rfl rfl hl.1 rfl (lv_room (Nat.le_of_ble_eq_true rfl)) dBx_sortAlongWidest_34 ⟨(Nat.le_of_ble_eq_true rfl), (Nat.le_of_ble_eq_true rfl)⟩) hP hS hA (fun r_12 H locs hv hP hS => ?_)
      refine lv_istore (lv' := [(4, .int r_12), (0, .ref q_this), (1, .int x1), (2, .ref q_shades), (3, .int v3)]) hx hb dBx_sortAlongWidest_37 hl (by decide) rfl (fun ls hl => ?_)
      refine lv_aload_n hx hb dBx_sortAlongWidest_39 rfl (lv_at hl 3 rfl) ?_
      refine va_get (D := (dC, dI)) (ci := 6) (v := .ref q_shades_keys) (C := RSh) (T := TSh) (N := 6) hx hb hB hiSh hown hK hP 5 rfl rfl 3 (by decide) hL84 (fun _ h9 => h9) rfl dBx_sortAlongWidest_40 ?_
      refine lv_iload_n hx hb dBx_sortAlongWidest_43 rfl (lv_at hl 4 rfl) ?_
      refine lv_iload hx hb dBx_sortAlongWidest_44 (lv_at hl 0 rfl) ?_
      refine lv_i2l hx hb dBx_sortAlongWidest_46 rfl ?_
      refine lv_bipush (v := 10) hx hb dBx_sortAlongWidest_47 (by decide) ?_
      refine lv_lshl hx hb dBx_sortAlongWidest_49 rfl ?_
      refine lv_aload_n hx hb dBx_sortAlongWidest_50 rfl (lv_at hl 1 rfl) ?_
      refine va_get (D := (dC, dI)) (ci := 0) (v := .ref q_row) (C := RBx) (T := TBx) (N := 7) hx hb hB hiBx hown hK hP 0 rfl rfl 0 (by decide) hL27 (fun _ h9 => h9) rfl dBx_sortAlongWidest_51 ?_
      refine lv_iload_n hx hb dBx_sortAlongWidest_54 rfl (lv_at hl 4 rfl) ?_
      obtain ⟨h_14, hv⟩ := hv
      refine va_iald hx hb hK hP 1 0 rfl rfl h_14 dBx_sortAlongWidest_55 ?_
      refine lv_i2l hx hb dBx_sortAlongWidest_56 rfl ?_
      refine lv_lor hx hb dBx_sortAlongWidest_57 ?_
      obtain ⟨h_15, hv⟩ := hv
      refine va_last hx hb hK hP hD hS 7 5 rfl rfl h_15 dBx_sortAlongWidest_58 (fun H locs hP hD hS => ?_)
      have hP : va_P (dC, dI) vwCl (wdBx_sortAlongWidest q_this q_row q_start q_end q_widest q_shades q_shades_tint q_shades_keys r_weight r_spread r_shades_many r_shades_rank c_row c_start c_end c_widest c_shades_tint c_shades_keys n_row n_start n_end n_widest n_shades_tint n_shades_keys f_size f_row f_start f_end f_widest f_shades_size f_shades_stale f_shades_tint (vp_updL f_shades_keys v3.toNatClampNeg ((r_12.toInt64 <<< ((10 : Int32).toInt64 &&& 63)) ||| ((f_row v3.toNatClampNeg).toInt64)))) H := hP
      have hD : va_D A (wdBx_sortAlongWidest q_this q_row q_start q_end q_widest q_shades q_shades_tint q_shades_keys r_weight r_spread r_shades_many r_shades_rank c_row c_start c_end c_widest c_shades_tint c_shades_keys n_row n_start n_end n_widest n_shades_tint n_shades_keys f_size f_row f_start f_end f_widest f_shades_size f_shades_stale f_shades_tint (vp_updL f_shades_keys v3.toNatClampNeg ((r_12.toInt64 <<< ((10 : Int32).toInt64 &&& 63)) ||| ((f_row v3.toNatClampNeg).toInt64)))) := hD
      refine lv_iinc (v := v3 + 1) (lv' := [(3, .int (v3 + 1)), (4, .int r_12), (0, .ref q_this), (1, .int x1), (2, .ref q_shades)]) hx hb dBx_sortAlongWidest_59 hl (k := 4) rfl rfl (by decide) rfl (fun ls hl => ?_)
      refine lv_goto (tgt := 7) hx hb dBx_sortAlongWidest_62 (by decide) ?_
      rw [eK7, eG] at hv
      exact hv _ _ _ hP hD hS (lv_sub hl [2, 3, 4, 0] rfl))
  have hv := hv (by
    intro v3 f_row f_shades_keys hv
    rw [eK91]
    intro H locs ls hP hD hS hl
    rw [eG]
    unfold vcBx_sortAlongWidest_91 at hv
    refine lv_iload_n hx hb dBx_sortAlongWidest_91 rfl (lv_at hl 3 rfl) ?_
    refine lv_aload_n hx hb dBx_sortAlongWidest_92 rfl (lv_at hl 0 rfl) ?_
    refine va_get (D := (dC, dI)) (ci := 0) (v := .ref q_end) (C := RBx) (T := TBx) (N := 7) hx hb hB hiBx hown hK hP 0 rfl rfl 2 (by decide) hL15 (fun _ h9 => h9) rfl dBx_sortAlongWidest_93 ?_
    refine lv_iload_n hx hb dBx_sortAlongWidest_96 rfl (lv_at hl 1 rfl) ?_
    obtain ⟨h_17, hv⟩ := hv
    refine va_iald hx hb hK hP 3 2 rfl rfl h_17 dBx_sortAlongWidest_97 ?_
    refine lv_icmp_ge (tgt := 124) hx hb dBx_sortAlongWidest_98 (by decide) (fun c_18 => ?_) (fun c_18 => ?_)
    · have hv := hv.1 c_18
      exact W.vret hx hb hr (fun t ht hW => ⟨⟨(f_row, f_shades_keys), rfl, hv, by rw [ht]; exact hP, hD⟩, hS.F ht⟩) hS.2.2 dBx_sortAlongWidest_124
    · have hv := hv.2 c_18
      refine lv_aload_n hx hb dBx_sortAlongWidest_101 rfl (lv_at hl 0 rfl) ?_
      refine va_get (D := (dC, dI)) (ci := 0) (v := .ref q_row) (C := RBx) (T := TBx) (N := 7) hx hb hB hiBx hown hK hP 0 rfl rfl 0 (by decide) hL27 (fun _ h9 => h9) rfl dBx_sortAlongWidest_102 ?_
      refine lv_iload_n hx hb dBx_sortAlongWidest_105 rfl (lv_at hl 3 rfl) ?_
      refine lv_aload_n hx hb dBx_sortAlongWidest_106 rfl (lv_at hl 2 rfl) ?_
      refine va_get (D := (dC, dI)) (ci := 6) (v := .ref q_shades_keys) (C := RSh) (T := TSh) (N := 6) hx hb hB hiSh hown hK hP 5 rfl rfl 3 (by decide) hL84 (fun _ h9 => h9) rfl dBx_sortAlongWidest_107 ?_
      refine lv_iload_n hx hb dBx_sortAlongWidest_110 rfl (lv_at hl 3 rfl) ?_
      obtain ⟨h_19, hv⟩ := hv
      refine va_lald hx hb hK hP 7 5 rfl rfl h_19 dBx_sortAlongWidest_111 ?_
      refine lv_ldc2 (v := 1023) hx hb hown (hB _ bw416) dBx_sortAlongWidest_112 ?_
      refine lv_land hx hb dBx_sortAlongWidest_115 ?_
      refine lv_l2i hx hb dBx_sortAlongWidest_116 rfl ?_
      obtain ⟨h_20, hv⟩ := hv
      refine va_iast hx hb hK hP hD hS 1 0 rfl rfl h_20 dBx_sortAlongWidest_117 (fun H locs hP hD hS => ?_)
      have hP : va_P (dC, dI) vwCl (wdBx_sortAlongWidest q_this q_row q_start q_end q_widest q_shades q_shades_tint q_shades_keys r_weight r_spread r_shades_many r_shades_rank c_row c_start c_end c_widest c_shades_tint c_shades_keys n_row n_start n_end n_widest n_shades_tint n_shades_keys f_size (upd f_row v3.toNatClampNeg (((f_shades_keys v3.toNatClampNeg) &&& 1023).toInt32)) f_start f_end f_widest f_shades_size f_shades_stale f_shades_tint f_shades_keys) H := hP
      have hD : va_D A (wdBx_sortAlongWidest q_this q_row q_start q_end q_widest q_shades q_shades_tint q_shades_keys r_weight r_spread r_shades_many r_shades_rank c_row c_start c_end c_widest c_shades_tint c_shades_keys n_row n_start n_end n_widest n_shades_tint n_shades_keys f_size (upd f_row v3.toNatClampNeg (((f_shades_keys v3.toNatClampNeg) &&& 1023).toInt32)) f_start f_end f_widest f_shades_size f_shades_stale f_shades_tint f_shades_keys) := hD
      refine lv_iinc (v := v3 + 1) (lv' := [(3, .int (v3 + 1)), (0, .ref q_this), (1, .int x1), (2, .ref q_shades)]) hx hb dBx_sortAlongWidest_118 hl (k := 3) rfl rfl (by decide) rfl (fun ls hl => ?_)
      refine lv_goto (tgt := 91) hx hb dBx_sortAlongWidest_121 (by decide) ?_
      rw [eK91, eG] at hv
      exact hv _ _ _ hP hD hS (lv_sub hl [1, 2, 3, 0] rfl))
  rw [eG]
  refine lv_aload_n hx hb dBx_sortAlongWidest_0 rfl (lv_at hl 0 rfl) ?_
  refine va_get (D := (dC, dI)) (ci := 0) (v := .ref q_start) (C := RBx) (T := TBx) (N := 7) hx hb hB hiBx hown hK hP 0 rfl rfl 1 (by decide) hL9 (fun _ h9 => h9) rfl dBx_sortAlongWidest_1 ?_
  refine lv_iload_n hx hb dBx_sortAlongWidest_4 rfl (lv_at hl 1 rfl) ?_
  obtain ⟨h_22, hv⟩ := hv
  refine va_iald hx hb hK hP 2 1 rfl rfl h_22 dBx_sortAlongWidest_5 ?_
  refine lv_topi (fun v3_23 ev3_23 => ?_)
  have hv := hv v3_23 ev3_23
  refine lv_istore_n (lv' := [(3, .int v3_23), (0, .ref q_this), (1, .int x1), (2, .ref q_shades)]) hx hb dBx_sortAlongWidest_6 rfl hl (by decide) rfl (fun ls hl => ?_)
  rw [eK7, eG] at hv
  exact hv _ _ _ hP hD hS (lv_sub hl [1, 2, 3, 0] rfl)
abbrev wdBx_cutPlace (q_this q_row q_start q_end q_weight q_shades q_shades_many r_spread r_widest r_shades_tint r_shades_rank r_shades_keys : Nat) (c_row c_start c_end c_weight c_shades_many : ClassId) (n_row n_start n_end n_weight n_shades_many : Nat) (f_size : Int32) (f_row : Nat → Int32) (f_start : Nat → Int32) (f_end : Nat → Int32) (f_weight : Nat → Int32) (f_shades_size : Int32) (f_shades_stale : Int32) (f_shades_many : Nat → Int32) : va_W := [(q_this, .inr (0, [.ref q_row, .ref q_start, .ref q_end, .ref q_weight, .ref r_spread, .ref r_widest, .int f_size])), (q_row, .inl (c_row, n_row, .inl f_row)), (q_start, .inl (c_start, n_start, .inl f_start)), (q_end, .inl (c_end, n_end, .inl f_end)), (q_weight, .inl (c_weight, n_weight, .inl f_weight)), (q_shades, .inr (6, [.ref r_shades_tint, .ref q_shades_many, .ref r_shades_rank, .ref r_shades_keys, .int f_shades_size, .int f_shades_stale])), (q_shades_many, .inl (c_shades_many, n_shades_many, .inl f_shades_many))]
set_option maxHeartbeats 4000000 in
set_option maxRecDepth 100000 in
theorem metBx_cutPlace (l : Launch) (dC : Nat → ClassId) (dI : Nat → Nat → Nat) (q_this q_row q_start q_end q_weight q_shades q_shades_many r_spread r_widest r_shades_tint r_shades_rank r_shades_keys : Nat) (c_row c_start c_end c_weight c_shades_many : ClassId) (n_row n_start n_end n_weight n_shades_many : Nat) (sz : Nat) (f_size : Int32) (f_row : Nat → Int32) (f_start : Nat → Int32) (f_end : Nat → Int32) (f_weight : Nat → Int32) (f_shades_size : Int32) (f_shades_stale : Int32) (f_shades_many : Nat → Int32) (x1 : Int32) {post : Int32 → Prop} (hw : wpBx_cutPlace n_row n_start n_end n_weight n_shades_many f_size f_row f_start f_end f_weight f_shades_size f_shades_stale f_shades_many x1 post) : Met l yBx_cutPlace (.code yBx_cutPlace bBx_cutPlace 6 (some .int) :: BIG) ({ frames := 0, cells := 0, slots := 0, locals := 0 }) (va_Pc [.ref q_this, .int x1, .ref q_shades] (gx_rpre (dC, dI) vwCl (wdBx_cutPlace q_this q_row q_start q_end q_weight q_shades q_shades_many r_spread r_widest r_shades_tint r_shades_rank r_shades_keys c_row c_start c_end c_weight c_shades_many n_row n_start n_end n_weight n_shades_many f_size f_row f_start f_end f_weight f_shades_size f_shades_stale f_shades_many) [(c_row, .int), (c_start, .int), (c_end, .int), (c_weight, .int), (c_shades_many, .int)] sz)) (va_Qi (fun r (u : Unit) => post r ) (fun _ _ => True) (fun q : Nat => sz ≤ q)) 0 0 (fun q : Nat => sz ≤ q) := by
  refine Met.ofW (cc := bBx_cutPlace) (maxL := 6) (ret := (some .int)) (by decide) rfl ?_
  intro p e s m args below meth c s₁ B hml hv
  obtain ⟨rfl, hsz, hP, hK, hZ⟩ := hv
  have hx := B.exec
  have hb := B.bytes
  have hr := B.returns
  have hts := atoms_spec (ws := (.code yBx_cutPlace bBx_cutPlace 6 (some .int) :: BIG)) B.pre
  have hB : ∀ w ∈ BIG, w.before _ s = true := fun w h => hts w (List.mem_cons_of_mem _ h)
  have hown : s.vm.findClass RBx = some m.cls := findClass_of_methodNamed B.named
  have hlocks := B.notSynchronized
  subst hsz
  have hA : ∀ q : Nat, s.heap.size ≤ q → (fun q : Nat => s.heap.size ≤ q) q := fun _ h => h
  have hS : va_S (fun q : Nat => s.heap.size ≤ q) s.heap s.heap [] := va_S.rf
  have hl := lv_entry ([.ref q_this, .int x1, .ref q_shades]) (n := 6) (Nat.le_of_ble_eq_true rfl)
  rw [lg_entry_eq]
  generalize (lg_sl ([.ref q_this, .int x1, .ref q_shades]) ++ List.replicate (6 - (lg_sl ([.ref q_this, .int x1, .ref q_shades])).length) Slot.unset).toArray = ls at hl ⊢
  have hl : lv_has ls 6 [(0, .ref q_this), (1, .int x1), (2, .ref q_shades)] := hl
  have hL9 := (hB _ bw118)
  have hL15 := (hB _ bw119)
  have hL18 := (hB _ bw120)
  have hL27 := (hB _ bw117)
  have hL61 := (hB _ bw91)
  refine gx_abs (fun G eG => ?_)
  obtain ⟨K34, eK34⟩ : ∃ K : Int32 → Int32 → Int32 → Prop, K = fun v3 v4 v5 => ∀ (H : Heap) (locs : List Loc) (ls : Array Slot), va_P (dC, dI) vwCl (wdBx_cutPlace q_this q_row q_start q_end q_weight q_shades q_shades_many r_spread r_widest r_shades_tint r_shades_rank r_shades_keys c_row c_start c_end c_weight c_shades_many n_row n_start n_end n_weight n_shades_many f_size f_row f_start f_end f_weight f_shades_size f_shades_stale f_shades_many) H → va_S (fun q : Nat => s.heap.size ≤ q) s.heap H locs → lv_has ls 6 [(0, .ref q_this), (1, .int x1), (2, .ref q_shades), (3, .int v3), (4, .int v4), (5, .int v5)] → G H locs 0 0 (F0 m 34 ls []) := ⟨_, rfl⟩
  have j87 : ∀ (v3 : Int32), vcBx_cutPlace_87 n_row n_start n_end n_weight n_shades_many f_size f_row f_start f_end f_weight f_shades_size f_shades_stale f_shades_many x1 K34 post v3 → ∀ (H : Heap) (locs : List Loc) (ls : Array Slot), va_P (dC, dI) vwCl (wdBx_cutPlace q_this q_row q_start q_end q_weight q_shades q_shades_many r_spread r_widest r_shades_tint r_shades_rank r_shades_keys c_row c_start c_end c_weight c_shades_many n_row n_start n_end n_weight n_shades_many f_size f_row f_start f_end f_weight f_shades_size f_shades_stale f_shades_many) H → va_S (fun q : Nat => s.heap.size ≤ q) s.heap H locs → lv_has ls 6 [(3, .int v3)] → G H locs 0 0 (F0 m 87 ls []) := by
    intro v3 hv H locs ls hP hS hl
    rw [eG]
    unfold vcBx_cutPlace_87 at hv
    refine lv_iload_n hx hb dBx_cutPlace_87 rfl (lv_at hl 0 rfl) ?_
    exact W.iret (v := v3) hx hb hr (fun t ht hW => ⟨⟨_, (), rfl, hv, trivial⟩, hS.F ht⟩) hS.2.2 dBx_cutPlace_88
  rw [eG] at j87
  unfold wpBx_cutPlace at hw
  have hv := hw K34
  have hv := hv (by
    intro v3 v4 v5 hv
    rw [eK34]
    intro H locs ls hP hS hl
    rw [eG]
    unfold vcBx_cutPlace_34 at hv
    refine lv_iload hx hb dBx_cutPlace_34 (lv_at hl 5 rfl) ?_
    refine lv_aload_n hx hb dBx_cutPlace_36 rfl (lv_at hl 0 rfl) ?_
    refine va_get (D := (dC, dI)) (ci := 0) (v := .ref q_start) (C := RBx) (T := TBx) (N := 7) hx hb hB hiBx hown hK hP 0 rfl rfl 1 (by decide) hL9 (fun _ h9 => h9) rfl dBx_cutPlace_37 ?_
    refine lv_iload_n hx hb dBx_cutPlace_40 rfl (lv_at hl 1 rfl) ?_
    obtain ⟨h_1, hv⟩ := hv
    refine va_iald hx hb hK hP 2 1 rfl rfl h_1 dBx_cutPlace_41 ?_
    refine lv_icmp_le (tgt := 87) hx hb dBx_cutPlace_42 (by decide) (fun c_2 => ?_) (fun c_2 => ?_)
    · have hv := hv.1 c_2
      exact j87 v3 hv _ _ _ hP hS (lv_sub hl [3] rfl)
    · have hv := hv.2 c_2
      refine lv_iload hx hb dBx_cutPlace_45 (lv_at hl 4 rfl) ?_
      refine lv_aload_n hx hb dBx_cutPlace_47 rfl (lv_at hl 2 rfl) ?_
      refine va_get (D := (dC, dI)) (ci := 6) (v := .ref q_shades_many) (C := RSh) (T := TSh) (N := 6) hx hb hB hiSh hown hK hP 5 rfl rfl 1 (by decide) hL61 (fun _ h9 => h9) rfl dBx_cutPlace_48 ?_
      refine lv_aload_n hx hb dBx_cutPlace_51 rfl (lv_at hl 0 rfl) ?_
      refine va_get (D := (dC, dI)) (ci := 0) (v := .ref q_row) (C := RBx) (T := TBx) (N := 7) hx hb hB hiBx hown hK hP 0 rfl rfl 0 (by decide) hL27 (fun _ h9 => h9) rfl dBx_cutPlace_52 ?_
      refine lv_iload hx hb dBx_cutPlace_55 (lv_at hl 5 rfl) ?_
      obtain ⟨h_3, hv⟩ := hv
      refine va_iald hx hb hK hP 1 0 rfl rfl h_3 dBx_cutPlace_57 ?_
      obtain ⟨h_4, hv⟩ := hv
      refine va_iald hx hb hK hP 6 4 rfl rfl h_4 dBx_cutPlace_58 ?_
      refine lv_isub hx hb dBx_cutPlace_59 ?_
      refine lv_topi (fun v4_5 ev4_5 => ?_)
      have hv := hv v4_5 ev4_5
      refine lv_istore (lv' := [(4, .int v4_5), (0, .ref q_this), (1, .int x1), (2, .ref q_shades), (3, .int v3), (5, .int v5)]) hx hb dBx_cutPlace_60 hl (by decide) rfl (fun ls hl => ?_)
      refine lv_iconst (v := 2) hx hb dBx_cutPlace_62 (by decide) ?_
      refine lv_iload hx hb dBx_cutPlace_63 (lv_at hl 0 rfl) ?_
      refine lv_imul hx hb dBx_cutPlace_65 ?_
      refine lv_aload_n hx hb dBx_cutPlace_66 rfl (lv_at hl 1 rfl) ?_
      refine va_get (D := (dC, dI)) (ci := 0) (v := .ref q_weight) (C := RBx) (T := TBx) (N := 7) hx hb hB hiBx hown hK hP 0 rfl rfl 3 (by decide) hL18 (fun _ h9 => h9) rfl dBx_cutPlace_67 ?_
      refine lv_iload_n hx hb dBx_cutPlace_70 rfl (lv_at hl 2 rfl) ?_
      obtain ⟨h_6, hv⟩ := hv
      refine va_iald hx hb hK hP 4 3 rfl rfl h_6 dBx_cutPlace_71 ?_
      refine lv_icmp_ge (tgt := 78) hx hb dBx_cutPlace_72 (by decide) (fun c_7 => ?_) (fun c_7 => ?_)
      · have hv := hv.1 c_7
        refine lv_iload hx hb dBx_cutPlace_78 (lv_at hl 5 rfl) ?_
        refine lv_istore_n (lv' := [(3, .int v5), (4, .int v4_5), (0, .ref q_this), (1, .int x1), (2, .ref q_shades), (5, .int v5)]) hx hb dBx_cutPlace_80 rfl hl (by decide) rfl (fun ls hl => ?_)
        refine lv_iinc (v := v5 + (-1)) (lv' := [(5, .int (v5 + (-1))), (3, .int v5), (4, .int v4_5), (0, .ref q_this), (1, .int x1), (2, .ref q_shades)]) hx hb dBx_cutPlace_81 hl (k := 5) rfl rfl (by decide) rfl (fun ls hl => ?_)
        refine lv_goto (tgt := 34) hx hb dBx_cutPlace_84 (by decide) ?_
        rw [eK34, eG] at hv
        exact hv _ _ _ hP hS (lv_sub hl [3, 4, 5, 1, 2, 0] rfl)
      · have hv := hv.2 c_7
        refine lv_goto (tgt := 87) hx hb dBx_cutPlace_75 (by decide) ?_
        exact j87 v3 hv _ _ _ hP hS (lv_sub hl [4] rfl))
  rw [eG]
  refine lv_aload_n hx hb dBx_cutPlace_0 rfl (lv_at hl 0 rfl) ?_
  refine va_get (D := (dC, dI)) (ci := 0) (v := .ref q_end) (C := RBx) (T := TBx) (N := 7) hx hb hB hiBx hown hK hP 0 rfl rfl 2 (by decide) hL15 (fun _ h9 => h9) rfl dBx_cutPlace_1 ?_
  refine lv_iload_n hx hb dBx_cutPlace_4 rfl (lv_at hl 1 rfl) ?_
  obtain ⟨h_8, hv⟩ := hv
  refine va_iald hx hb hK hP 3 2 rfl rfl h_8 dBx_cutPlace_5 ?_
  refine lv_iconst (v := 1) hx hb dBx_cutPlace_6 (by decide) ?_
  refine lv_isub hx hb dBx_cutPlace_7 ?_
  refine lv_topi (fun v3_9 ev3_9 => ?_)
  have hv := hv v3_9 ev3_9
  refine lv_istore_n (lv' := [(3, .int v3_9), (0, .ref q_this), (1, .int x1), (2, .ref q_shades)]) hx hb dBx_cutPlace_8 rfl hl (by decide) rfl (fun ls hl => ?_)
  refine lv_aload_n hx hb dBx_cutPlace_9 rfl (lv_at hl 1 rfl) ?_
  refine va_get (D := (dC, dI)) (ci := 0) (v := .ref q_weight) (C := RBx) (T := TBx) (N := 7) hx hb hB hiBx hown hK hP 0 rfl rfl 3 (by decide) hL18 (fun _ h9 => h9) rfl dBx_cutPlace_10 ?_
  refine lv_iload_n hx hb dBx_cutPlace_13 rfl (lv_at hl 2 rfl) ?_
  obtain ⟨h_10, hv⟩ := hv
  refine va_iald hx hb hK hP 4 3 rfl rfl h_10 dBx_cutPlace_14 ?_
  refine lv_aload_n hx hb dBx_cutPlace_15 rfl (lv_at hl 3 rfl) ?_
  refine va_get (D := (dC, dI)) (ci := 6) (v := .ref q_shades_many) (C := RSh) (T := TSh) (N := 6) hx hb hB hiSh hown hK hP 5 rfl rfl 1 (by decide) hL61 (fun _ h9 => h9) rfl dBx_cutPlace_16 ?_
  refine lv_aload_n hx hb dBx_cutPlace_19 rfl (lv_at hl 1 rfl) ?_
  refine va_get (D := (dC, dI)) (ci := 0) (v := .ref q_row) (C := RBx) (T := TBx) (N := 7) hx hb hB hiBx hown hK hP 0 rfl rfl 0 (by decide) hL27 (fun _ h9 => h9) rfl dBx_cutPlace_20 ?_
  refine lv_iload_n hx hb dBx_cutPlace_23 rfl (lv_at hl 0 rfl) ?_
  obtain ⟨h_11, hv⟩ := hv
  refine va_iald hx hb hK hP 1 0 rfl rfl h_11 dBx_cutPlace_24 ?_
  obtain ⟨h_12, hv⟩ := hv
  refine va_iald hx hb hK hP 6 4 rfl rfl h_12 dBx_cutPlace_25 ?_
  refine lv_isub hx hb dBx_cutPlace_26 ?_
  refine lv_topi (fun v4_13 ev4_13 => ?_)
  have hv := hv v4_13 ev4_13
  refine lv_istore (lv' := [(4, .int v4_13), (3, .int v3_9), (0, .ref q_this), (1, .int x1), (2, .ref q_shades)]) hx hb dBx_cutPlace_27 hl (by decide) rfl (fun ls hl => ?_)
  refine lv_iload_n hx hb dBx_cutPlace_29 rfl (lv_at hl 1 rfl) ?_
  refine lv_iconst (v := 1) hx hb dBx_cutPlace_30 (by decide) ?_
  refine lv_isub hx hb dBx_cutPlace_31 ?_
  refine lv_topi (fun v5_14 ev5_14 => ?_)
  have hv := hv v5_14 ev5_14
  refine lv_istore (lv' := [(5, .int v5_14), (4, .int v4_13), (3, .int v3_9), (0, .ref q_this), (1, .int x1), (2, .ref q_shades)]) hx hb dBx_cutPlace_32 hl (by decide) rfl (fun ls hl => ?_)
  rw [eK34, eG] at hv
  exact hv _ _ _ hP hS (lv_sub hl [3, 4, 5, 2, 1, 0] rfl)
