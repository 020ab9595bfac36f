abbrev wdOf_accept (q_this q_tint q_there : Nat) (c_tint c_there : ClassId) (n_tint n_there : Nat) (f_size : Int32) (f_tint : Nat → Int32) (f_there : Nat → Int32) : va_W := [(q_this, .inr (3, [.ref q_tint, .ref q_there, .int f_size])), (q_tint, .inl (c_tint, n_tint, .inl f_tint)), (q_there, .inl (c_there, n_there, .inl f_there))]
set_option maxHeartbeats 4000000 in
set_option maxRecDepth 100000 in
theorem metOf_accept (l : Launch) (dC : Nat → ClassId) (dI : Nat → Nat → Nat) (q_this q_tint q_there : Nat) (c_tint c_there : ClassId) (n_tint n_there : Nat) (sz : Nat) (f_size : Int32) (f_tint : Nat → Int32) (f_there : Nat → Int32) (x1 : Int32) (x2 : Int32) {post : Int32 → (Nat → Int32) → (Nat → Int32) → Prop} (hw : wpOf_accept n_tint n_there f_size f_tint f_there x1 x2 post) : Met l yOf_accept (.code yOf_accept bOf_accept 3 none :: BIG) ({ frames := 0, cells := 0, slots := 0, locals := 0 }) (va_Pc [.ref q_this, .int x1, .int x2] (gx_pre (dC, dI) vwCl (wdOf_accept q_this q_tint q_there c_tint c_there n_tint n_there f_size f_tint f_there) [(c_tint, .int), (c_there, .boolean)] sz)) (va_Qv (fun (u : Int32 × (Nat → Int32) × (Nat → Int32)) => post u.1 u.2.1 u.2.2) (gx_B (dC, dI) vwCl (va_A (wdOf_accept q_this q_tint q_there c_tint c_there n_tint n_there f_size f_tint f_there) sz) (fun (u : Int32 × (Nat → Int32) × (Nat → Int32)) => (wdOf_accept q_this q_tint q_there c_tint c_there n_tint n_there u.1 u.2.1 u.2.2))) (va_A (wdOf_accept q_this q_tint q_there c_tint c_there n_tint n_there f_size f_tint f_there) sz)) 0 0 (va_A (wdOf_accept q_this q_tint q_there c_tint c_there n_tint n_there f_size f_tint f_there) sz) := by
  refine Met.ofW (cc := bOf_accept) (maxL := 3) (ret := none) (by decide) rfl ?_
  intro p e s m args below meth c s₁ B hml hv
  obtain ⟨rfl, hsz, hP, hK, hD0, hZ⟩ := hv
  have hx := B.exec
  have hb := B.bytes
  have hr := B.returns
  have hts := atoms_spec (ws := (.code yOf_accept bOf_accept 3 none :: BIG)) B.pre
  have hB : ∀ w ∈ BIG, w.before _ s = true := fun w h => hts w (List.mem_cons_of_mem _ h)
  have hown : s.vm.findClass ROf = some m.cls := findClass_of_methodNamed B.named
  have hlocks := B.notSynchronized
  subst hsz
  have hD := hD0.self (sz := s.heap.size)
  generalize hAe : va_A (wdOf_accept q_this q_tint q_there c_tint c_there n_tint n_there f_size f_tint f_there) s.heap.size = A at hD hZ ⊢
  have hA : ∀ q : Nat, s.heap.size ≤ q → A q := fun q h => by rw [← hAe]; exact Or.inr h
  have hS : va_S A s.heap s.heap [] := va_S.rf
  have hl := lv_entry ([.ref q_this, .int x1, .int x2]) (n := 3) (Nat.le_of_ble_eq_true rfl)
  rw [lg_entry_eq]
  generalize (lg_sl ([.ref q_this, .int x1, .int x2]) ++ List.replicate (3 - (lg_sl ([.ref q_this, .int x1, .int x2])).length) Slot.unset).toArray = ls at hl ⊢
  have hl : lv_has ls 3 [(0, .ref q_this), (1, .int x1), (2, .int x2)] := hl
  have hL9 := (hB _ bw150)
  have hL15 := (hB _ bw151)
  have hL19 := (hB _ bw152)
  refine gx_abs (fun G eG => ?_)
  have j26 : ∀ (f_size : Int32) (f_tint : Nat → Int32) (f_there : Nat → Int32), vcOf_accept_26 n_tint n_there x1 x2 post f_size f_tint f_there → ∀ (H : Heap) (locs : List Loc) (ls : Array Slot), va_P (dC, dI) vwCl (wdOf_accept q_this q_tint q_there c_tint c_there n_tint n_there f_size f_tint f_there) H → va_D A (wdOf_accept q_this q_tint q_there c_tint c_there n_tint n_there f_size f_tint f_there) → va_S A s.heap H locs → lv_has ls 3 [(0, .ref q_this), (1, .int x1), (2, .int x2)] → G H locs 0 0 (F0 m 26 ls []) := by
    intro f_size f_tint f_there hv H locs ls hP hD hS hl
    rw [eG]
    unfold vcOf_accept_26 at hv
    refine lv_aload_n hx hb dOf_accept_26 rfl (lv_at hl 0 rfl) ?_
    refine va_get (D := (dC, dI)) (ci := 3) (v := .ref q_tint) (C := ROf) (T := TOf) (N := 3) hx hb hB hiOf hown hK hP 0 rfl rfl 0 (by decide) hL9 (fun _ h9 => h9) rfl dOf_accept_27 ?_
    refine lv_iload_n hx hb dOf_accept_30 rfl (lv_at hl 1 rfl) ?_
    refine lv_iload_n hx hb dOf_accept_31 rfl (lv_at hl 2 rfl) ?_
    obtain ⟨h_1, hv⟩ := hv
    refine va_iast hx hb hK hP hD hS 1 0 rfl rfl h_1 dOf_accept_32 (fun H locs hP hD hS => ?_)
    have hP : va_P (dC, dI) vwCl (wdOf_accept q_this q_tint q_there c_tint c_there n_tint n_there f_size (upd f_tint x1.toNatClampNeg x2) f_there) H := hP
    have hD : va_D A (wdOf_accept q_this q_tint q_there c_tint c_there n_tint n_there f_size (upd f_tint x1.toNatClampNeg x2) f_there) := hD
    exact W.vret hx hb hr (fun t ht hW => ⟨⟨(f_size, upd f_tint x1.toNatClampNeg x2, f_there), rfl, hv, by rw [ht]; exact hP, hD⟩, hS.F ht⟩) hS.2.2 dOf_accept_33
  rw [eG] at j26
  unfold wpOf_accept at hw
  have hv := hw
  rw [eG]
  refine lv_aload_n hx hb dOf_accept_0 rfl (lv_at hl 0 rfl) ?_
  refine va_get (D := (dC, dI)) (ci := 3) (v := .ref q_there) (C := ROf) (T := TOf) (N := 3) hx hb hB hiOf hown hK hP 0 rfl rfl 1 (by decide) hL15 (fun _ h9 => h9) rfl dOf_accept_1 ?_
  refine lv_iload_n hx hb dOf_accept_4 rfl (lv_at hl 1 rfl) ?_
  obtain ⟨h_3, hv⟩ := hv
  refine va_zald hx hb hK hP 2 1 rfl rfl h_3 dOf_accept_5 ?_
  refine lv_if_ne (tgt := 26) hx hb dOf_accept_6 (by decide) (fun c_4 => ?_) (fun c_4 => ?_)
  · have hv := hv.1 c_4
    exact j26 f_size f_tint f_there hv _ _ _ hP hD hS (lv_sub hl [0, 1, 2] rfl)
  · have hv := hv.2 c_4
    refine lv_aload_n hx hb dOf_accept_9 rfl (lv_at hl 0 rfl) ?_
    refine va_get (D := (dC, dI)) (ci := 3) (v := .ref q_there) (C := ROf) (T := TOf) (N := 3) hx hb hB hiOf hown hK hP 0 rfl rfl 1 (by decide) hL15 (fun _ h9 => h9) rfl dOf_accept_10 ?_
    refine lv_iload_n hx hb dOf_accept_13 rfl (lv_at hl 1 rfl) ?_
    refine lv_iconst (v := 1) hx hb dOf_accept_14 (by decide) ?_
    obtain ⟨h_5, hv⟩ := hv
    refine va_zast hx hb hK hP hD hS 2 1 rfl rfl h_5 dOf_accept_15 (fun H locs hP hD hS => ?_)
    have hP : va_P (dC, dI) vwCl (wdOf_accept q_this q_tint q_there c_tint c_there n_tint n_there f_size f_tint (upd f_there x1.toNatClampNeg (vp_nar .boolean 1))) H := hP
    have hD : va_D A (wdOf_accept q_this q_tint q_there c_tint c_there n_tint n_there f_size f_tint (upd f_there x1.toNatClampNeg (vp_nar .boolean 1))) := hD
    refine lv_aload_n hx hb dOf_accept_16 rfl (lv_at hl 0 rfl) ?_
    refine lv_dup hx hb dOf_accept_17 rfl ?_
    refine va_get (D := (dC, dI)) (ci := 3) (v := .int f_size) (C := ROf) (T := TOf) (N := 3) hx hb hB hiOf hown hK hP 0 rfl rfl 2 (by decide) hL19 (fun _ h9 => h9) rfl dOf_accept_18 ?_
    refine lv_iconst (v := 1) hx hb dOf_accept_21 (by decide) ?_
    refine lv_iadd hx hb dOf_accept_22 ?_
    refine lv_topi (fun w_7 ew_7 => ?_)
    have hv := hv w_7 ew_7
    refine va_put (D := (dC, dI)) (ci := 3) (v := .int w_7) (ty := .int) (C := ROf) (T := TOf) (N := 3) hx hb hB hiOf tOf tOf_ok nOf hown hK hP hD hS 0 rfl rfl 2 (by decide) hL19 (fun _ h9 => h9) rfl (by decide +kernel) rfl rfl (Nat.le_of_ble_eq_true rfl) dOf_accept_23 (fun H locs hP hD hS => ?_)
    have hP : va_P (dC, dI) vwCl (wdOf_accept q_this q_tint q_there c_tint c_there n_tint n_there w_7 f_tint (upd f_there x1.toNatClampNeg (vp_nar .boolean 1))) H := hP
    have hD : va_D A (wdOf_accept q_this q_tint q_there c_tint c_there n_tint n_there w_7 f_tint (upd f_there x1.toNatClampNeg (vp_nar .boolean 1))) := hD
    exact j26 w_7 f_tint (upd f_there x1.toNatClampNeg (vp_nar .boolean 1)) hv _ _ _ hP hD hS (lv_sub hl [0, 1, 2] rfl)
abbrev wdOf_withdraw (q_this q_there r_tint : Nat) (c_there : ClassId) (n_there : Nat) (f_size : Int32) (f_there : Nat → Int32) : va_W := [(q_this, .inr (3, [.ref r_tint, .ref q_there, .int f_size])), (q_there, .inl (c_there, n_there, .inl f_there))]
set_option maxHeartbeats 4000000 in
set_option maxRecDepth 100000 in
theorem metOf_withdraw (l : Launch) (dC : Nat → ClassId) (dI : Nat → Nat → Nat) (q_this q_there r_tint : Nat) (c_there : ClassId) (n_there : Nat) (sz : Nat) (f_size : Int32) (f_there : Nat → Int32) (x1 : Int32) {post : Int32 → (Nat → Int32) → Prop} (hw : wpOf_withdraw n_there f_size f_there x1 post) : Met l yOf_withdraw (.code yOf_withdraw bOf_withdraw 2 none :: BIG) ({ frames := 0, cells := 0, slots := 0, locals := 0 }) (va_Pc [.ref q_this, .int x1] (gx_pre (dC, dI) vwCl (wdOf_withdraw q_this q_there r_tint c_there n_there f_size f_there) [(c_there, .boolean)] sz)) (va_Qv (fun (u : Int32 × (Nat → Int32)) => post u.1 u.2) (gx_B (dC, dI) vwCl (va_A (wdOf_withdraw q_this q_there r_tint c_there n_there f_size f_there) sz) (fun (u : Int32 × (Nat → Int32)) => (wdOf_withdraw q_this q_there r_tint c_there n_there u.1 u.2))) (va_A (wdOf_withdraw q_this q_there r_tint c_there n_there f_size f_there) sz)) 0 0 (va_A (wdOf_withdraw q_this q_there r_tint c_there n_there f_size f_there) sz) := by
  refine Met.ofW (cc := bOf_withdraw) (maxL := 2) (ret := none) (by decide) rfl ?_
  intro p e s m args below meth c s₁ B hml hv
  obtain ⟨rfl, hsz, hP, hK, hD0, hZ⟩ := hv
  have hx := B.exec
  have hb := B.bytes
  have hr := B.returns
  have hts := atoms_spec (ws := (.code yOf_withdraw bOf_withdraw 2 none :: BIG)) B.pre
  have hB : ∀ w ∈ BIG, w.before _ s = true := fun w h => hts w (List.mem_cons_of_mem _ h)
  have hown : s.vm.findClass ROf = some m.cls := findClass_of_methodNamed B.named
  have hlocks := B.notSynchronized
  subst hsz
  have hD := hD0.self (sz := s.heap.size)
  generalize hAe : va_A (wdOf_withdraw q_this q_there r_tint c_there n_there f_size f_there) s.heap.size = A at hD hZ ⊢
  have hA : ∀ q : Nat, s.heap.size ≤ q → A q := fun q h => by rw [← hAe]; exact Or.inr h
  have hS : va_S A s.heap s.heap [] := va_S.rf
  have hl := lv_entry ([.ref q_this, .int x1]) (n := 2) (Nat.le_of_ble_eq_true rfl)
  rw [lg_entry_eq]
  generalize (lg_sl ([.ref q_this, .int x1]) ++ List.replicate (2 - (lg_sl ([.ref q_this, .int x1])).length) Slot.unset).toArray = ls at hl ⊢
  have hl : lv_has ls 2 [(0, .ref q_this), (1, .int x1)] := hl
  have hL15 := (hB _ bw151)
  have hL19 := (hB _ bw152)
  refine gx_abs (fun G eG => ?_)
  have j26 : ∀ (f_size : Int32) (f_there : Nat → Int32), vcOf_withdraw_26 n_there x1 post f_size f_there → ∀ (H : Heap) (locs : List Loc) (ls : Array Slot), va_P (dC, dI) vwCl (wdOf_withdraw q_this q_there r_tint c_there n_there f_size f_there) H → va_D A (wdOf_withdraw q_this q_there r_tint c_there n_there f_size f_there) → va_S A s.heap H locs → lv_has ls 2 [] → G H locs 0 0 (F0 m 26 ls []) := by
    intro f_size f_there hv H locs ls hP hD hS hl
    rw [eG]
    unfold vcOf_withdraw_26 at hv
    exact W.vret hx hb hr (fun t ht hW => ⟨⟨(f_size, f_there), rfl, hv, by rw [ht]; exact hP, hD⟩, hS.F ht⟩) hS.2.2 dOf_withdraw_26
  rw [eG] at j26
  unfold wpOf_withdraw at hw
  have hv := hw
  rw [eG]
  refine lv_aload_n hx hb dOf_withdraw_0 rfl (lv_at hl 0 rfl) ?_
  refine va_get (D := (dC, dI)) (ci := 3) (v := .ref q_there) (C := ROf) (T := TOf) (N := 3) hx hb hB hiOf hown hK hP 0 rfl rfl 1 (by decide) hL15 (fun _ h9 => h9) rfl dOf_withdraw_1 ?_
  refine lv_iload_n hx hb dOf_withdraw_4 rfl (lv_at hl 1 rfl) ?_
  obtain ⟨h_1, hv⟩ := hv
  refine va_zald hx hb hK hP 1 0 rfl rfl h_1 dOf_withdraw_5 ?_
  refine lv_if_eq (tgt := 26) hx hb dOf_withdraw_6 (by decide) (fun c_2 => ?_) (fun c_2 => ?_)
  · have hv := hv.1 c_2
    exact j26 f_size f_there hv _ _ _ hP hD hS (lv_sub hl [] rfl)
  · have hv := hv.2 c_2
    refine lv_aload_n hx hb dOf_withdraw_9 rfl (lv_at hl 0 rfl) ?_
    refine va_get (D := (dC, dI)) (ci := 3) (v := .ref q_there) (C := ROf) (T := TOf) (N := 3) hx hb hB hiOf hown hK hP 0 rfl rfl 1 (by decide) hL15 (fun _ h9 => h9) rfl dOf_withdraw_10 ?_
    refine lv_iload_n hx hb dOf_withdraw_13 rfl (lv_at hl 1 rfl) ?_
    refine lv_iconst (v := 0) hx hb dOf_withdraw_14 (by decide) ?_
    obtain ⟨h_3, hv⟩ := hv
    refine va_zast hx hb hK hP hD hS 1 0 rfl rfl h_3 dOf_withdraw_15 (fun H locs hP hD hS => ?_)
    have hP : va_P (dC, dI) vwCl (wdOf_withdraw q_this q_there r_tint c_there n_there f_size (upd f_there x1.toNatClampNeg (vp_nar .boolean 0))) H := hP
    have hD : va_D A (wdOf_withdraw q_this q_there r_tint c_there n_there f_size (upd f_there x1.toNatClampNeg (vp_nar .boolean 0))) := hD
    refine lv_aload_n hx hb dOf_withdraw_16 rfl (lv_at hl 0 rfl) ?_
    refine lv_dup hx hb dOf_withdraw_17 rfl ?_
    refine va_get (D := (dC, dI)) (ci := 3) (v := .int f_size) (C := ROf) (T := TOf) (N := 3) hx hb hB hiOf hown hK hP 0 rfl rfl 2 (by decide) hL19 (fun _ h9 => h9) rfl dOf_withdraw_18 ?_
    refine lv_iconst (v := 1) hx hb dOf_withdraw_21 (by decide) ?_
    refine lv_isub hx hb dOf_withdraw_22 ?_
    refine lv_topi (fun w_5 ew_5 => ?_)
    have hv := hv w_5 ew_5
    refine va_put (D := (dC, dI)) (ci := 3) (v := .int w_5) (ty := .int) (C := ROf) (T := TOf) (N := 3) hx hb hB hiOf tOf tOf_ok nOf hown hK hP hD hS 0 rfl rfl 2 (by decide) hL19 (fun _ h9 => h9) rfl (by decide +kernel) rfl rfl (Nat.le_of_ble_eq_true rfl) dOf_withdraw_23 (fun H locs hP hD hS => ?_)
    have hP : va_P (dC, dI) vwCl (wdOf_withdraw q_this q_there r_tint c_there n_there w_5 (upd f_there x1.toNatClampNeg (vp_nar .boolean 0))) H := hP
    have hD : va_D A (wdOf_withdraw q_this q_there r_tint c_there n_there w_5 (upd f_there x1.toNatClampNeg (vp_nar .boolean 0))) := hD
    exact j26 w_5 (upd f_there x1.toNatClampNeg (vp_nar .boolean 0)) hv _ _ _ hP hD hS (lv_sub hl [] rfl)
abbrev wdOf_withdrawAll (q_this q_there r_tint : Nat) (c_there : ClassId) (n_there : Nat) (f_size : Int32) (f_there : Nat → Int32) : va_W := [(q_this, .inr (3, [.ref r_tint, .ref q_there, .int f_size])), (q_there, .inl (c_there, n_there, .inl f_there))]
set_option maxHeartbeats 4000000 in
set_option maxRecDepth 100000 in
theorem metOf_withdrawAll (l : Launch) (dC : Nat → ClassId) (dI : Nat → Nat → Nat) (q_this q_there r_tint : Nat) (c_there : ClassId) (n_there : Nat) (sz : Nat) (f_size : Int32) (f_there : Nat → Int32) {post : Int32 → (Nat → Int32) → Prop} (hw : wpOf_withdrawAll n_there f_size f_there post) : Met l yOf_withdrawAll (.code yOf_withdrawAll bOf_withdrawAll 2 none :: BIG) ({ frames := 1, cells := 0, slots := 0, locals := 21 }) (va_Pc [.ref q_this] (gx_pre (dC, dI) vwCl (wdOf_withdrawAll q_this q_there r_tint c_there n_there f_size f_there) [(c_there, .boolean)] sz)) (va_Qv (fun (u : Int32 × (Nat → Int32)) => post u.1 u.2) (gx_B (dC, dI) vwCl (va_A (wdOf_withdrawAll q_this q_there r_tint c_there n_there f_size f_there) sz) (fun (u : Int32 × (Nat → Int32)) => (wdOf_withdrawAll q_this q_there r_tint c_there n_there u.1 u.2))) (va_A (wdOf_withdrawAll q_this q_there r_tint c_there n_there f_size f_there) sz)) 0 0 (va_A (wdOf_withdrawAll q_this q_there r_tint c_there n_there f_size f_there) sz) := by
  refine Met.ofW (cc := bOf_withdrawAll) (maxL := 2) (ret := none) (by decide) rfl ?_
  intro p e s m args below meth c s₁ B hml hv
  obtain ⟨rfl, hsz, hP, hK, hD0, hZ⟩ := hv
  have hx := B.exec
  have hb := B.bytes
  have hr := B.returns
  have hts := atoms_spec (ws := (.code yOf_withdrawAll bOf_withdrawAll 2 none :: BIG)) B.pre
  have hB : ∀ w ∈ BIG, w.before _ s = true := fun w h => hts w (List.mem_cons_of_mem _ h)
  have hown : s.vm.findClass ROf = some m.cls := findClass_of_methodNamed B.named
  have hlocks := B.notSynchronized
  subst hsz
  have hD := hD0.self (sz := s.heap.size)
  generalize hAe : va_A (wdOf_withdrawAll q_this q_there r_tint c_there n_there f_size f_there) s.heap.size = A at hD hZ ⊢
  have hA : ∀ q : Nat, s.heap.size ≤ q → A q := fun q h => by rw [← hAe]; exact Or.inr h
  have hS : va_S A s.heap s.heap [] := va_S.rf
  have hl := lv_entry ([.ref q_this]) (n := 2) (Nat.le_of_ble_eq_true rfl)
  rw [lg_entry_eq]
  generalize (lg_sl ([.ref q_this]) ++ List.replicate (2 - (lg_sl ([.ref q_this])).length) Slot.unset).toArray = ls at hl ⊢
  have hl : lv_has ls 2 [(0, .ref q_this)] := hl
  refine gx_abs (fun G eG => ?_)
  obtain ⟨K2, eK2⟩ : ∃ K : Int32 → Int32 → (Nat → Int32) → Prop, K = fun v1 f_size f_there => ∀ (H : Heap) (locs : List Loc) (ls : Array Slot), va_P (dC, dI) vwCl (wdOf_withdrawAll q_this q_there r_tint c_there n_there f_size f_there) H → va_D A (wdOf_withdrawAll q_this q_there r_tint c_there n_there f_size f_there) → va_S A s.heap H locs → lv_has ls 2 [(0, .ref q_this), (1, .int v1)] → G H locs 0 0 (F0 m 2 ls []) := ⟨_, rfl⟩
  unfold wpOf_withdrawAll at hw
  have hv := hw K2
  have hv := hv (by
    intro v1 f_size f_there hv
    rw [eK2]
    intro H locs ls hP hD hS hl
    rw [eG]
    unfold vcOf_withdrawAll_2 at hv
    refine lv_iload_n hx hb dOf_withdrawAll_2 rfl (lv_at hl 1 rfl) ?_
    refine lv_bipush (v := 64) hx hb dOf_withdrawAll_3 (by decide) ?_
    refine lv_icmp_ge (tgt := 19) hx hb dOf_withdrawAll_5 (by decide) (fun c_1 => ?_) (fun c_1 => ?_)
    · have hv := hv.1 c_1
      exact W.vret hx hb hr (fun t ht hW => ⟨⟨(f_size, f_there), rfl, hv, by rw [ht]; exact hP, hD⟩, hS.F ht⟩) hS.2.2 dOf_withdrawAll_19
    · have hv := hv.2 c_1
      refine lv_aload_n hx hb dOf_withdrawAll_8 rfl (lv_at hl 0 rfl) ?_
      refine lv_iload_n hx hb dOf_withdrawAll_9 rfl (lv_at hl 1 rfl) ?_
      have hFc := va_free (wc := (wdOf_withdraw q_this q_there r_tint c_there n_there f_size f_there)) hD hS hA [0, 1] rfl
      refine gx_v (wr := []) (va_runV (As := [.int v1]) (rest := []) ⟨hx, hb, hml, hown, hB⟩ (metOf_withdraw l dC dI q_this q_there r_tint c_there n_there H.size f_size f_there v1 hv) (cwV 1 hB (gx_gV bw254 bw255 bw256 bw49 bw257) rfl rfl rfl (by decide +kernel) ⟨(Nat.le_of_ble_eq_true rfl), (Nat.le_of_ble_eq_true rfl)⟩) (gx_preV (ci := 3) (hP.sub (ws' := (wdOf_withdraw q_this q_there r_tint c_there n_there f_size f_there)) [0, 1] rfl) (hK.sub (tys' := [(c_there, .boolean)]) [0] rfl) (hD.sub (ws' := (wdOf_withdraw q_this q_there r_tint c_there n_there f_size f_there)) [0, 1] (by decide) rfl) hZ hS hFc rfl rfl) rfl rfl hl.1 rfl (lv_room (Nat.le_of_ble_eq_true rfl)) dOf_withdrawAll_10 ⟨(Nat.le_of_ble_eq_true rfl), (Nat.le_of_ble_eq_true rfl)⟩) hP hD hS hFc [0, 1] [] rfl rfl (by decide) (by decide) (fun u_4 H locs hv hP hD hS => ?_)
      obtain ⟨f_size_2, f_there_3⟩ := u_4
      have hP : va_P (dC, dI) vwCl (wdOf_withdrawAll q_this q_there r_tint c_there n_there f_size_2 f_there_3) H := hP.sub [0, 1] rfl
      have hD : va_D A (wdOf_withdrawAll q_this q_there r_tint c_there n_there f_size_2 f_there_3) := hD.sub [0, 1] (by decide) rfl
      refine lv_iinc (v := v1 + 1) (lv' := [(1, .int (v1 + 1)), (0, .ref q_this)]) hx hb dOf_withdrawAll_13 hl (k := 1) rfl rfl (by decide) rfl (fun ls hl => ?_)
      refine lv_goto (tgt := 2) hx hb dOf_withdrawAll_16 (by decide) ?_
      rw [eK2, eG] at hv
      exact hv _ _ _ hP hD hS (lv_sub hl [1, 0] rfl))
  rw [eG]
  refine lv_iconst (v := 0) hx hb dOf_withdrawAll_0 (by decide) ?_
  refine lv_istore_n (lv' := [(1, .int 0), (0, .ref q_this)]) hx hb dOf_withdrawAll_1 rfl hl (by decide) rfl (fun ls hl => ?_)
  rw [eK2, eG] at hv
  exact hv _ _ _ hP hD hS (lv_sub hl [1, 0] rfl)
abbrev wdPa_add (q_this q_levels : Nat) (c_levels : ClassId) (n_levels : Nat) (f_size : Int32) (f_levels : Nat → Int32) : va_W := [(q_this, .inr (4, [.ref q_levels, .int f_size])), (q_levels, .inl (c_levels, n_levels, .inl f_levels))]
set_option maxHeartbeats 4000000 in
set_option maxRecDepth 100000 in
theorem metPa_add (l : Launch) (dC : Nat → ClassId) (dI : Nat → Nat → Nat) (q_this q_levels : Nat) (c_levels : ClassId) (n_levels : Nat) (sz : Nat) (f_size : Int32) (f_levels : Nat → Int32) (x1 : Int32) {post : Int32 → (Nat → Int32) → Prop} (hw : wpPa_add n_levels f_size f_levels x1 post) : Met l yPa_add (.code yPa_add bPa_add 2 none :: BIG) ({ frames := 2, cells := 0, slots := 0, locals := 44 }) (va_Pc [.ref q_this, .int x1] (gx_pre (dC, dI) vwCl (wdPa_add q_this q_levels c_levels n_levels f_size f_levels) [(c_levels, .int)] sz)) (va_Qv (fun (u : Int32 × (Nat → Int32)) => post u.1 u.2) (gx_B (dC, dI) vwCl (va_A (wdPa_add q_this q_levels c_levels n_levels f_size f_levels) sz) (fun (u : Int32 × (Nat → Int32)) => (wdPa_add q_this q_levels c_levels n_levels u.1 u.2))) (va_A (wdPa_add q_this q_levels c_levels n_levels f_size f_levels) sz)) 0 0 (va_A (wdPa_add q_this q_levels c_levels n_levels f_size f_levels) sz) := by
  refine Met.ofW (cc := bPa_add) (maxL := 2) (ret := none) (by decide) rfl ?_
  intro p e s m args below meth c s₁ B hml hv
  obtain ⟨rfl, hsz, hP, hK, hD0, hZ⟩ := hv
  have hx := B.exec
  have hb := B.bytes
  have hr := B.returns
  have hts := atoms_spec (ws := (.code yPa_add bPa_add 2 none :: BIG)) B.pre
  have hB : ∀ w ∈ BIG, w.before _ s = true := fun w h => hts w (List.mem_cons_of_mem _ h)
  have hown : s.vm.findClass RPa = some m.cls := findClass_of_methodNamed B.named
  have hlocks := B.notSynchronized
  subst hsz
  have hD := hD0.self (sz := s.heap.size)
  generalize hAe : va_A (wdPa_add q_this q_levels c_levels n_levels f_size f_levels) s.heap.size = A at hD hZ ⊢
  have hA : ∀ q : Nat, s.heap.size ≤ q → A q := fun q h => by rw [← hAe]; exact Or.inr h
  have hS : va_S A s.heap s.heap [] := va_S.rf
  have hl := lv_entry ([.ref q_this, .int x1]) (n := 2) (Nat.le_of_ble_eq_true rfl)
  rw [lg_entry_eq]
  generalize (lg_sl ([.ref q_this, .int x1]) ++ List.replicate (2 - (lg_sl ([.ref q_this, .int x1])).length) Slot.unset).toArray = ls at hl ⊢
  have hl : lv_has ls 2 [(0, .ref q_this), (1, .int x1)] := hl
  have hL15 := (hB _ bw166)
  refine gx_abs (fun G eG => ?_)
  have j28 : ∀ (f_size : Int32) (f_levels : Nat → Int32), vcPa_add_28 n_levels x1 post f_size f_levels → ∀ (H : Heap) (locs : List Loc) (ls : Array Slot), va_P (dC, dI) vwCl (wdPa_add q_this q_levels c_levels n_levels f_size f_levels) H → va_D A (wdPa_add q_this q_levels c_levels n_levels f_size f_levels) → va_S A s.heap H locs → lv_has ls 2 [] → G H locs 0 0 (F0 m 28 ls []) := by
    intro f_size f_levels hv H locs ls hP hD hS hl
    rw [eG]
    unfold vcPa_add_28 at hv
    exact W.vret hx hb hr (fun t ht hW => ⟨⟨(f_size, f_levels), rfl, hv, by rw [ht]; exact hP, hD⟩, hS.F ht⟩) hS.2.2 dPa_add_28
  rw [eG] at j28
  unfold wpPa_add at hw
  have hv := hw
  rw [eG]
  refine lv_aload_n hx hb dPa_add_0 rfl (lv_at hl 0 rfl) ?_
  refine va_get (D := (dC, dI)) (ci := 4) (v := .int f_size) (C := RPa) (T := TPa) (N := 2) hx hb hB hiPa hown hK hP 0 rfl rfl 1 (by decide) hL15 (fun _ h9 => h9) rfl dPa_add_1 ?_
  refine lv_bipush (v := 64) hx hb dPa_add_4 (by decide) ?_
  refine lv_icmp_ge (tgt := 28) hx hb dPa_add_6 (by decide) (fun c_1 => ?_) (fun c_1 => ?_)
  · have hv := hv.1 c_1
    exact j28 f_size f_levels hv _ _ _ hP hD hS (lv_sub hl [] rfl)
  · have hv := hv.2 c_1
    refine lv_aload_n hx hb dPa_add_9 rfl (lv_at hl 0 rfl) ?_
    refine lv_aload_n hx hb dPa_add_10 rfl (lv_at hl 0 rfl) ?_
    refine va_get (D := (dC, dI)) (ci := 4) (v := .int f_size) (C := RPa) (T := TPa) (N := 2) hx hb hB hiPa hown hK hP 0 rfl rfl 1 (by decide) hL15 (fun _ h9 => h9) rfl dPa_add_11 ?_
    refine lv_iload_n hx hb dPa_add_14 rfl (lv_at hl 1 rfl) ?_
    have hFc := va_free (wc := (wdPa_replace q_this q_levels c_levels n_levels f_size f_levels)) hD hS hA [0, 1] rfl
    refine gx_v (wr := []) (va_runV (As := [.int f_size, .int x1]) (rest := []) ⟨hx, hb, hml, hown, hB⟩ (metPa_replace l dC dI q_this q_levels c_levels n_levels s.heap.size f_size f_levels f_size x1 hv) (cwV 2 hB (gx_gV bw390 bw391 bw392 bw50 bw393) rfl rfl rfl (by decide +kernel) ⟨(Nat.le_of_ble_eq_true rfl), (Nat.le_of_ble_eq_true rfl)⟩) (gx_preV (ci := 4) (hP.sub (ws' := (wdPa_replace q_this q_levels c_levels n_levels f_size f_levels)) [0, 1] rfl) (hK.sub (tys' := [(c_levels, .int)]) [0] rfl) (hD.sub (ws' := (wdPa_replace q_this q_levels c_levels n_levels f_size f_levels)) [0, 1] (by decide) rfl) hZ hS hFc rfl rfl) rfl rfl hl.1 rfl (lv_room (Nat.le_of_ble_eq_true rfl)) dPa_add_15 ⟨(Nat.le_of_ble_eq_true rfl), (Nat.le_of_ble_eq_true rfl)⟩) hP hD hS hFc [0, 1] [] rfl rfl (by decide) (by decide) (fun u_3 H locs hv hP hD hS => ?_)
    obtain ⟨f_levels_2, rfl⟩ : ∃ z, z = u_3 := ⟨_, rfl⟩
    have hP : va_P (dC, dI) vwCl (wdPa_add q_this q_levels c_levels n_levels f_size f_levels_2) H := hP.sub [0, 1] rfl
    have hD : va_D A (wdPa_add q_this q_levels c_levels n_levels f_size f_levels_2) := hD.sub [0, 1] (by decide) rfl
    refine lv_aload_n hx hb dPa_add_18 rfl (lv_at hl 0 rfl) ?_
    refine lv_dup hx hb dPa_add_19 rfl ?_
    refine va_get (D := (dC, dI)) (ci := 4) (v := .int f_size) (C := RPa) (T := TPa) (N := 2) hx hb hB hiPa hown hK hP 0 rfl rfl 1 (by decide) hL15 (fun _ h9 => h9) rfl dPa_add_20 ?_
    refine lv_iconst (v := 1) hx hb dPa_add_23 (by decide) ?_
    refine lv_iadd hx hb dPa_add_24 ?_
    refine lv_topi (fun w_4 ew_4 => ?_)
    have hv := hv w_4 ew_4
    refine va_put (D := (dC, dI)) (ci := 4) (v := .int w_4) (ty := .int) (C := RPa) (T := TPa) (N := 2) hx hb hB hiPa tPa tPa_ok nPa hown hK hP hD hS 0 rfl rfl 1 (by decide) hL15 (fun _ h9 => h9) rfl (by decide +kernel) rfl rfl (Nat.le_of_ble_eq_true rfl) dPa_add_25 (fun H locs hP hD hS => ?_)
    have hP : va_P (dC, dI) vwCl (wdPa_add q_this q_levels c_levels n_levels w_4 f_levels_2) H := hP
    have hD : va_D A (wdPa_add q_this q_levels c_levels n_levels w_4 f_levels_2) := hD
    exact j28 w_4 f_levels_2 hv _ _ _ hP hD hS (lv_sub hl [] rfl)
abbrev wdOf_addTo (q_this q_tint q_there q_palette q_palette_levels : Nat) (c_tint c_there c_palette_levels : ClassId) (n_tint n_there n_palette_levels : Nat) (f_size : Int32) (f_tint : Nat → Int32) (f_there : Nat → Int32) (f_palette_size : Int32) (f_palette_levels : Nat → Int32) : va_W := [(q_this, .inr (3, [.ref q_tint, .ref q_there, .int f_size])), (q_tint, .inl (c_tint, n_tint, .inl f_tint)), (q_there, .inl (c_there, n_there, .inl f_there)), (q_palette, .inr (4, [.ref q_palette_levels, .int f_palette_size])), (q_palette_levels, .inl (c_palette_levels, n_palette_levels, .inl f_palette_levels))]
set_option maxHeartbeats 4000000 in
set_option maxRecDepth 100000 in
theorem metOf_addTo (l : Launch) (dC : Nat → ClassId) (dI : Nat → Nat → Nat) (q_this q_tint q_there q_palette q_palette_levels : Nat) (c_tint c_there c_palette_levels : ClassId) (n_tint n_there n_palette_levels : Nat) (sz : Nat) (f_size : Int32) (f_tint : Nat → Int32) (f_there : Nat → Int32) (f_palette_size : Int32) (f_palette_levels : Nat → Int32) (x2 : Int32) {post : Int32 → (Nat → Int32) → Prop} (hw : wpOf_addTo n_tint n_there n_palette_levels f_size f_tint f_there f_palette_size f_palette_levels x2 post) : Met l yOf_addTo (.code yOf_addTo bOf_addTo 4 none :: BIG) ({ frames := 3, cells := 0, slots := 0, locals := 65 }) (va_Pc [.ref q_this, .ref q_palette, .int x2] (gx_pre (dC, dI) vwCl (wdOf_addTo q_this q_tint q_there q_palette q_palette_levels c_tint c_there c_palette_levels n_tint n_there n_palette_levels f_size f_tint f_there f_palette_size f_palette_levels) [(c_tint, .int), (c_there, .boolean), (c_palette_levels, .int)] sz)) (va_Qv (fun (u : Int32 × (Nat → Int32)) => post u.1 u.2) (gx_B (dC, dI) vwCl (va_A (wdOf_addTo q_this q_tint q_there q_palette q_palette_levels c_tint c_there c_palette_levels n_tint n_there n_palette_levels f_size f_tint f_there f_palette_size f_palette_levels) sz) (fun (u : Int32 × (Nat → Int32)) => (wdOf_addTo q_this q_tint q_there q_palette q_palette_levels c_tint c_there c_palette_levels n_tint n_there n_palette_levels f_size f_tint f_there u.1 u.2))) (va_A (wdOf_addTo q_this q_tint q_there q_palette q_palette_levels c_tint c_there c_palette_levels n_tint n_there n_palette_levels f_size f_tint f_there f_palette_size f_palette_levels) sz)) 0 0 (va_A (wdOf_addTo q_this q_tint q_there q_palette q_palette_levels c_tint c_there c_palette_levels n_tint n_there n_palette_levels f_size f_tint f_there f_palette_size f_palette_levels) sz) := by
  refine Met.ofW (cc := bOf_addTo) (maxL := 4) (ret := none) (by decide) rfl ?_
  intro p e s m args below meth c s₁ B hml hv
  obtain ⟨rfl, hsz, hP, hK, hD0, hZ⟩ := hv
  have hx := B.exec
  have hb := B.bytes
  have hr := B.returns
  have hts := atoms_spec (ws := (.code yOf_addTo bOf_addTo 4 none :: BIG)) B.pre
  have hB : ∀ w ∈ BIG, w.before _ s = true := fun w h => hts w (List.mem_cons_of_mem _ h)
  have hown : s.vm.findClass ROf = some m.cls := findClass_of_methodNamed B.named
  have hlocks := B.notSynchronized
  subst hsz
  have hD := hD0.self (sz := s.heap.size)
  generalize hAe : va_A (wdOf_addTo q_this q_tint q_there q_palette q_palette_levels c_tint c_there c_palette_levels n_tint n_there n_palette_levels f_size f_tint f_there f_palette_size f_palette_levels) s.heap.size = A at hD hZ ⊢
  have hA : ∀ q : Nat, s.heap.size ≤ q → A q := fun q h => by rw [← hAe]; exact Or.inr h
  have hS : va_S A s.heap s.heap [] := va_S.rf
  have hl := lv_entry ([.ref q_this, .ref q_palette, .int x2]) (n := 4) (Nat.le_of_ble_eq_true rfl)
  rw [lg_entry_eq]
  generalize (lg_sl ([.ref q_this, .ref q_palette, .int x2]) ++ List.replicate (4 - (lg_sl ([.ref q_this, .ref q_palette, .int x2])).length) Slot.unset).toArray = ls at hl ⊢
  have hl : lv_has ls 4 [(0, .ref q_this), (1, .ref q_palette), (2, .int x2)] := hl
  have hL9 := (hB _ bw150)
  have hL15 := (hB _ bw151)
  have hL27 := (hB _ bw168)
  refine gx_abs (fun G eG => ?_)
  obtain ⟨K2, eK2⟩ : ∃ K : Int32 → Int32 → (Nat → Int32) → Prop, K = fun v3 f_palette_size f_palette_levels => ∀ (H : Heap) (locs : List Loc) (ls : Array Slot), va_P (dC, dI) vwCl (wdOf_addTo q_this q_tint q_there q_palette q_palette_levels c_tint c_there c_palette_levels n_tint n_there n_palette_levels f_size f_tint f_there f_palette_size f_palette_levels) H → va_D A (wdOf_addTo q_this q_tint q_there q_palette q_palette_levels c_tint c_there c_palette_levels n_tint n_there n_palette_levels f_size f_tint f_there f_palette_size f_palette_levels) → va_S A s.heap H locs → lv_has ls 4 [(0, .ref q_this), (1, .ref q_palette), (2, .int x2), (3, .int v3)] → G H locs 0 0 (F0 m 2 ls []) := ⟨_, rfl⟩
  have j41 : ∀ (f_palette_size : Int32) (f_palette_levels : Nat → Int32), vcOf_addTo_41 n_tint n_there n_palette_levels f_size f_tint f_there x2 K2 post f_palette_size f_palette_levels → ∀ (H : Heap) (locs : List Loc) (ls : Array Slot), va_P (dC, dI) vwCl (wdOf_addTo q_this q_tint q_there q_palette q_palette_levels c_tint c_there c_palette_levels n_tint n_there n_palette_levels f_size f_tint f_there f_palette_size f_palette_levels) H → va_D A (wdOf_addTo q_this q_tint q_there q_palette q_palette_levels c_tint c_there c_palette_levels n_tint n_there n_palette_levels f_size f_tint f_there f_palette_size f_palette_levels) → va_S A s.heap H locs → lv_has ls 4 [] → G H locs 0 0 (F0 m 41 ls []) := by
    intro f_palette_size f_palette_levels hv H locs ls hP hD hS hl
    rw [eG]
    unfold vcOf_addTo_41 at hv
    exact W.vret hx hb hr (fun t ht hW => ⟨⟨(f_palette_size, f_palette_levels), rfl, hv, by rw [ht]; exact hP, hD⟩, hS.F ht⟩) hS.2.2 dOf_addTo_41
  rw [eG] at j41
  have j35 : ∀ (v3 : Int32) (f_palette_size : Int32) (f_palette_levels : Nat → Int32), vcOf_addTo_35 n_tint n_there n_palette_levels f_size f_tint f_there x2 K2 post v3 f_palette_size f_palette_levels → ∀ (H : Heap) (locs : List Loc) (ls : Array Slot), va_P (dC, dI) vwCl (wdOf_addTo q_this q_tint q_there q_palette q_palette_levels c_tint c_there c_palette_levels n_tint n_there n_palette_levels f_size f_tint f_there f_palette_size f_palette_levels) H → va_D A (wdOf_addTo q_this q_tint q_there q_palette q_palette_levels c_tint c_there c_palette_levels n_tint n_there n_palette_levels f_size f_tint f_there f_palette_size f_palette_levels) → va_S A s.heap H locs → lv_has ls 4 [(0, .ref q_this), (1, .ref q_palette), (2, .int x2), (3, .int v3)] → G H locs 0 0 (F0 m 35 ls []) := by
    intro v3 f_palette_size f_palette_levels hv H locs ls hP hD hS hl
    rw [eG]
    unfold vcOf_addTo_35 at hv
    refine lv_iinc (v := v3 + 1) (lv' := [(3, .int (v3 + 1)), (0, .ref q_this), (1, .ref q_palette), (2, .int x2)]) hx hb dOf_addTo_35 hl (k := 3) rfl rfl (by decide) rfl (fun ls hl => ?_)
    refine lv_goto (tgt := 2) hx hb dOf_addTo_38 (by decide) ?_
    rw [eK2, eG] at hv
    exact hv _ _ _ hP hD hS (lv_sub hl [1, 2, 3, 0] rfl)
  rw [eG] at j35
  unfold wpOf_addTo at hw
  have hv := hw K2
  have hv := hv (by
    intro v3 f_palette_size f_palette_levels hv
    rw [eK2]
    intro H locs ls hP hD hS hl
    rw [eG]
    unfold vcOf_addTo_2 at hv
    refine lv_iload_n hx hb dOf_addTo_2 rfl (lv_at hl 3 rfl) ?_
    refine lv_bipush (v := 64) hx hb dOf_addTo_3 (by decide) ?_
    refine lv_icmp_ge (tgt := 41) hx hb dOf_addTo_5 (by decide) (fun c_1 => ?_) (fun c_1 => ?_)
    · have hv := hv.1 c_1
      exact j41 f_palette_size f_palette_levels hv _ _ _ hP hD hS (lv_sub hl [] rfl)
    · have hv := hv.2 c_1
      refine lv_aload_n hx hb dOf_addTo_8 rfl (lv_at hl 1 rfl) ?_
      refine va_get (D := (dC, dI)) (ci := 4) (v := .int f_palette_size) (C := RPa) (T := TPa) (N := 2) hx hb hB hiPa hown hK hP 3 rfl rfl 1 (by decide) hL27 (fun _ h9 => h9) rfl dOf_addTo_9 ?_
      refine lv_iload_n hx hb dOf_addTo_12 rfl (lv_at hl 2 rfl) ?_
      refine lv_icmp_ge (tgt := 41) hx hb dOf_addTo_13 (by decide) (fun c_2 => ?_) (fun c_2 => ?_)
      · have hv := hv.1 c_2
        exact j41 f_palette_size f_palette_levels hv _ _ _ hP hD hS (lv_sub hl [] rfl)
      · have hv := hv.2 c_2
        refine lv_aload_n hx hb dOf_addTo_16 rfl (lv_at hl 0 rfl) ?_
        refine va_get (D := (dC, dI)) (ci := 3) (v := .ref q_there) (C := ROf) (T := TOf) (N := 3) hx hb hB hiOf hown hK hP 0 rfl rfl 1 (by decide) hL15 (fun _ h9 => h9) rfl dOf_addTo_17 ?_
        refine lv_iload_n hx hb dOf_addTo_20 rfl (lv_at hl 3 rfl) ?_
        obtain ⟨h_3, hv⟩ := hv
        refine va_zald hx hb hK hP 2 1 rfl rfl h_3 dOf_addTo_21 ?_
        refine lv_if_eq (tgt := 35) hx hb dOf_addTo_22 (by decide) (fun c_4 => ?_) (fun c_4 => ?_)
        · have hv := hv.1 c_4
          exact j35 v3 f_palette_size f_palette_levels hv _ _ _ hP hD hS (lv_sub hl [0, 1, 2, 3] rfl)
        · have hv := hv.2 c_4
          refine lv_aload_n hx hb dOf_addTo_25 rfl (lv_at hl 1 rfl) ?_
          refine lv_aload_n hx hb dOf_addTo_26 rfl (lv_at hl 0 rfl) ?_
          refine va_get (D := (dC, dI)) (ci := 3) (v := .ref q_tint) (C := ROf) (T := TOf) (N := 3) hx hb hB hiOf hown hK hP 0 rfl rfl 0 (by decide) hL9 (fun _ h9 => h9) rfl dOf_addTo_27 ?_
          refine lv_iload_n hx hb dOf_addTo_30 rfl (lv_at hl 3 rfl) ?_
          obtain ⟨h_5, hv⟩ := hv
          refine va_iald hx hb hK hP 1 0 rfl rfl h_5 dOf_addTo_31 ?_
          have hFc := va_free (wc := (wdPa_add q_palette q_palette_levels c_palette_levels n_palette_levels f_palette_size f_palette_levels)) hD hS hA [3, 4] rfl
          refine gx_v (wr := [(q_this, .inr (3, [.ref q_tint, .ref q_there, .int f_size])), (q_tint, .inl (c_tint, n_tint, .inl f_tint)), (q_there, .inl (c_there, n_there, .inl f_there))]) (va_runV (As := [.int (f_tint v3.toNatClampNeg)]) (rest := []) ⟨hx, hb, hml, hown, hB⟩ (metPa_add l dC dI q_palette q_palette_levels c_palette_levels n_palette_levels H.size f_palette_size f_palette_levels (f_tint v3.toNatClampNeg) hv) (cwV 1 hB (gx_gV bw386 bw387 bw388 bw50 bw389) rfl rfl rfl (by decide +kernel) ⟨(Nat.le_of_ble_eq_true rfl), (Nat.le_of_ble_eq_true rfl)⟩) (gx_preV (ci := 4) (hP.sub (ws' := (wdPa_add q_palette q_palette_levels c_palette_levels n_palette_levels f_palette_size f_palette_levels)) [3, 4] rfl) (hK.sub (tys' := [(c_palette_levels, .int)]) [2] rfl) (hD.sub (ws' := (wdPa_add q_palette q_palette_levels c_palette_levels n_palette_levels f_palette_size f_palette_levels)) [3, 4] (by decide) rfl) hZ hS hFc rfl rfl) rfl rfl hl.1 rfl (lv_room (Nat.le_of_ble_eq_true rfl)) dOf_addTo_32 ⟨(Nat.le_of_ble_eq_true rfl), (Nat.le_of_ble_eq_true rfl)⟩) hP hD hS hFc [3, 4] [0, 1, 2] rfl rfl (by decide) (by decide) (fun u_8 H locs hv hP hD hS => ?_)
          obtain ⟨f_palette_size_6, f_palette_levels_7⟩ := u_8
          have hP : va_P (dC, dI) vwCl (wdOf_addTo q_this q_tint q_there q_palette q_palette_levels c_tint c_there c_palette_levels n_tint n_there n_palette_levels f_size f_tint f_there f_palette_size_6 f_palette_levels_7) H := hP.sub [0, 1, 2, 3, 4] rfl
          have hD : va_D A (wdOf_addTo q_this q_tint q_there q_palette q_palette_levels c_tint c_there c_palette_levels n_tint n_there n_palette_levels f_size f_tint f_there f_palette_size_6 f_palette_levels_7) := hD.sub [0, 1, 2, 3, 4] (by decide) rfl
          exact j35 v3 f_palette_size_6 f_palette_levels_7 hv _ _ _ hP hD hS (lv_sub hl [0, 1, 2, 3] rfl))
  rw [eG]
  refine lv_iconst (v := 0) hx hb dOf_addTo_0 (by decide) ?_
  refine lv_istore_n (lv' := [(3, .int 0), (0, .ref q_this), (1, .ref q_palette), (2, .int x2)]) hx hb dOf_addTo_1 rfl hl (by decide) rfl (fun ls hl => ?_)
  rw [eK2, eG] at hv
  exact hv _ _ _ hP hD hS (lv_sub hl [1, 2, 3, 0] rfl)
abbrev wdPa_drop (q_this r_levels : Nat) (f_size : Int32) : va_W := [(q_this, .inr (4, [.ref r_levels, .int f_size]))]
set_option maxHeartbeats 4000000 in
set_option maxRecDepth 100000 in
theorem metPa_drop (l : Launch) (dC : Nat → ClassId) (dI : Nat → Nat → Nat) (q_this r_levels : Nat) (sz : Nat) (f_size : Int32) {post : Int32 → Prop} (hw : wpPa_drop f_size post) : Met l yPa_drop (.code yPa_drop bPa_drop 1 none :: BIG) ({ frames := 0, cells := 0, slots := 0, locals := 0 }) (va_Pc [.ref q_this] (gx_pre (dC, dI) vwCl (wdPa_drop q_this r_levels f_size) [] sz)) (va_Qv (fun (u : Int32) => post u) (gx_B (dC, dI) vwCl (va_A (wdPa_drop q_this r_levels f_size) sz) (fun (u : Int32) => (wdPa_drop q_this r_levels u))) (va_A (wdPa_drop q_this r_levels f_size) sz)) 0 0 (va_A (wdPa_drop q_this r_levels f_size) sz) := by
  refine Met.ofW (cc := bPa_drop) (maxL := 1) (ret := none) (by decide) rfl ?_
  intro p e s m args below meth c s₁ B hml hv
  obtain ⟨rfl, hsz, hP, hK, hD0, hZ⟩ := hv
  have hx := B.exec
  have hb := B.bytes
  have hr := B.returns
  have hts := atoms_spec (ws := (.code yPa_drop bPa_drop 1 none :: BIG)) B.pre
  have hB : ∀ w ∈ BIG, w.before _ s = true := fun w h => hts w (List.mem_cons_of_mem _ h)
  have hown : s.vm.findClass RPa = some m.cls := findClass_of_methodNamed B.named
  have hlocks := B.notSynchronized
  subst hsz
  have hD := hD0.self (sz := s.heap.size)
  generalize hAe : va_A (wdPa_drop q_this r_levels f_size) s.heap.size = A at hD hZ ⊢
  have hA : ∀ q : Nat, s.heap.size ≤ q → A q := fun q h => by rw [← hAe]; exact Or.inr h
  have hS : va_S A s.heap s.heap [] := va_S.rf
  have hl := lv_entry ([.ref q_this]) (n := 1) (Nat.le_of_ble_eq_true rfl)
  rw [lg_entry_eq]
  generalize (lg_sl ([.ref q_this]) ++ List.replicate (1 - (lg_sl ([.ref q_this])).length) Slot.unset).toArray = ls at hl ⊢
  have hl : lv_has ls 1 [(0, .ref q_this)] := hl
  have hL15 := (hB _ bw166)
  unfold wpPa_drop at hw
  have hv := hw
  refine lv_aload_n hx hb dPa_drop_0 rfl (lv_at hl 0 rfl) ?_
  refine lv_iconst (v := 0) hx hb dPa_drop_1 (by decide) ?_
  refine va_put (D := (dC, dI)) (ci := 4) (v := .int 0) (ty := .int) (C := RPa) (T := TPa) (N := 2) hx hb hB hiPa tPa tPa_ok nPa hown hK hP hD hS 0 rfl rfl 1 (by decide) hL15 (fun _ h9 => h9) rfl (by decide +kernel) rfl rfl (Nat.le_of_ble_eq_true rfl) dPa_drop_2 (fun H locs hP hD hS => ?_)
  have hP : va_P (dC, dI) vwCl (wdPa_drop q_this r_levels 0) H := hP
  have hD : va_D A (wdPa_drop q_this r_levels 0) := hD
  exact W.vret hx hb hr (fun t ht hW => ⟨⟨0, rfl, hv, by rw [ht]; exact hP, hD⟩, hS.F ht⟩) hS.2.2 dPa_drop_5
abbrev wdPo_addMeansTo (q_this q_totals q_many q_palette q_palette_levels r_means : Nat) (c_totals c_many c_palette_levels : ClassId) (n_totals n_many n_palette_levels : Nat) (f_size : Int32) (f_totals : Nat → Int32) (f_many : Nat → Int32) (f_palette_size : Int32) (f_palette_levels : Nat → Int32) : va_W := [(q_this, .inr (5, [.ref q_totals, .ref q_many, .ref r_means, .int f_size])), (q_totals, .inl (c_totals, n_totals, .inl f_totals)), (q_many, .inl (c_many, n_many, .inl f_many)), (q_palette, .inr (4, [.ref q_palette_levels, .int f_palette_size])), (q_palette_levels, .inl (c_palette_levels, n_palette_levels, .inl f_palette_levels))]
set_option maxHeartbeats 4000000 in
set_option maxRecDepth 100000 in
theorem metPo_addMeansTo (l : Launch) (dC : Nat → ClassId) (dI : Nat → Nat → Nat) (q_this q_totals q_many q_palette q_palette_levels r_means : Nat) (c_totals c_many c_palette_levels : ClassId) (n_totals n_many n_palette_levels : Nat) (sz : Nat) (f_size : Int32) (f_totals : Nat → Int32) (f_many : Nat → Int32) (f_palette_size : Int32) (f_palette_levels : Nat → Int32) {post : Int32 → (Nat → Int32) → Prop} (hw : wpPo_addMeansTo n_totals n_many n_palette_levels f_size f_totals f_many f_palette_size f_palette_levels post) : Met l yPo_addMeansTo (.code yPo_addMeansTo bPo_addMeansTo 3 none :: BIG) ({ frames := 3, cells := 0, slots := 0, locals := 65 }) (va_Pc [.ref q_this, .ref q_palette] (gx_pre (dC, dI) vwCl (wdPo_addMeansTo q_this q_totals q_many q_palette q_palette_levels r_means c_totals c_many c_palette_levels n_totals n_many n_palette_levels f_size f_totals f_many f_palette_size f_palette_levels) [(c_totals, .int), (c_many, .int), (c_palette_levels, .int)] sz)) (va_Qv (fun (u : Int32 × (Nat → Int32)) => post u.1 u.2) (gx_B (dC, dI) vwCl (va_A (wdPo_addMeansTo q_this q_totals q_many q_palette q_palette_levels r_means c_totals c_many c_palette_levels n_totals n_many n_palette_levels f_size f_totals f_many f_palette_size f_palette_levels) sz) (fun (u : Int32 × (Nat → Int32)) => (wdPo_addMeansTo q_this q_totals q_many q_palette q_palette_levels r_means c_totals c_many c_palette_levels n_totals n_many n_palette_levels f_size f_totals f_many u.1 u.2))) (va_A (wdPo_addMeansTo q_this q_totals q_many q_palette q_palette_levels r_means c_totals c_many c_palette_levels n_totals n_many n_palette_levels f_size f_totals f_many f_palette_size f_palette_levels) sz)) 0 0 (va_A (wdPo_addMeansTo q_this q_totals q_many q_palette q_palette_levels r_means c_totals c_many c_palette_levels n_totals n_many n_palette_levels f_size f_totals f_many f_palette_size f_palette_levels) sz) := by
  refine Met.ofW (cc := bPo_addMeansTo) (maxL := 3) (ret := none) (by decide) rfl ?_
  intro p e s m args below meth c s₁ B hml hv
  obtain ⟨rfl, hsz, hP, hK, hD0, hZ⟩ := hv
  have hx := B.exec
  have hb := B.bytes
  have hr := B.returns
  have hts := atoms_spec (ws := (.code yPo_addMeansTo bPo_addMeansTo 3 none :: BIG)) B.pre
  have hB : ∀ w ∈ BIG, w.before _ s = true := fun w h => hts w (List.mem_cons_of_mem _ h)
  have hown : s.vm.findClass RPo = some m.cls := findClass_of_methodNamed B.named
  have hlocks := B.notSynchronized
  subst hsz
  have hD := hD0.self (sz := s.heap.size)
  generalize hAe : va_A (wdPo_addMeansTo q_this q_totals q_many q_palette q_palette_levels r_means c_totals c_many c_palette_levels n_totals n_many n_palette_levels f_size f_totals f_many f_palette_size f_palette_levels) s.heap.size = A at hD hZ ⊢
  have hA : ∀ q : Nat, s.heap.size ≤ q → A q := fun q h => by rw [← hAe]; exact Or.inr h
  have hS : va_S A s.heap s.heap [] := va_S.rf
  have hl := lv_entry ([.ref q_this, .ref q_palette]) (n := 3) (Nat.le_of_ble_eq_true rfl)
  rw [lg_entry_eq]
  generalize (lg_sl ([.ref q_this, .ref q_palette]) ++ List.replicate (3 - (lg_sl ([.ref q_this, .ref q_palette])).length) Slot.unset).toArray = ls at hl ⊢
  have hl : lv_has ls 3 [(0, .ref q_this), (1, .ref q_palette)] := hl
  have hL27 := (hB _ bw140)
  refine gx_abs (fun G eG => ?_)
  obtain ⟨K2, eK2⟩ : ∃ K : Int32 → Int32 → (Nat → Int32) → Prop, K = fun v2 f_palette_size f_palette_levels => ∀ (H : Heap) (locs : List Loc) (ls : Array Slot), va_P (dC, dI) vwCl (wdPo_addMeansTo q_this q_totals q_many q_palette q_palette_levels r_means c_totals c_many c_palette_levels n_totals n_many n_palette_levels f_size f_totals f_many f_palette_size f_palette_levels) H → va_D A (wdPo_addMeansTo q_this q_totals q_many q_palette q_palette_levels r_means c_totals c_many c_palette_levels n_totals n_many n_palette_levels f_size f_totals f_many f_palette_size f_palette_levels) → va_S A s.heap H locs → lv_has ls 3 [(0, .ref q_this), (1, .ref q_palette), (2, .int v2)] → G H locs 0 0 (F0 m 2 ls []) := ⟨_, rfl⟩
  unfold wpPo_addMeansTo at hw
  have hv := hw K2
  have hv := hv (by
    intro v2 f_palette_size f_palette_levels hv
    rw [eK2]
    intro H locs ls hP hD hS hl
    rw [eG]
    unfold vcPo_addMeansTo_2 at hv
    refine lv_iload_n hx hb dPo_addMeansTo_2 rfl (lv_at hl 2 rfl) ?_
    refine lv_aload_n hx hb dPo_addMeansTo_3 rfl (lv_at hl 0 rfl) ?_
    refine va_get (D := (dC, dI)) (ci := 5) (v := .int f_size) (C := RPo) (T := TPo) (N := 4) hx hb hB hiPo hown hK hP 0 rfl rfl 3 (by decide) hL27 (fun _ h9 => h9) rfl dPo_addMeansTo_4 ?_
    refine lv_icmp_ge (tgt := 25) hx hb dPo_addMeansTo_7 (by decide) (fun c_1 => ?_) (fun c_1 => ?_)
    · have hv := hv.1 c_1
      exact W.vret hx hb hr (fun t ht hW => ⟨⟨(f_palette_size, f_palette_levels), rfl, hv, by rw [ht]; exact hP, hD⟩, hS.F ht⟩) hS.2.2 dPo_addMeansTo_25
    · have hv := hv.2 c_1
      refine lv_aload_n hx hb dPo_addMeansTo_10 rfl (lv_at hl 1 rfl) ?_
      refine lv_aload_n hx hb dPo_addMeansTo_11 rfl (lv_at hl 0 rfl) ?_
      refine lv_iload_n hx hb dPo_addMeansTo_12 rfl (lv_at hl 2 rfl) ?_
      refine gx_ri (va_runV (As := [.int v2]) (rest := [.ref q_palette]) ⟨hx, hb, hml, hown, hB⟩ (metPo_meanOf l dC dI q_this q_totals q_many r_means c_totals c_many n_totals n_many H.size f_size f_totals f_many v2 hv) (cwV 1 hB (gx_gV bw440 bw441 bw442 bw48 bw443) rfl rfl rfl (by decide +kernel) ⟨(Nat.le_of_ble_eq_true rfl), (Nat.le_of_ble_eq_true rfl)⟩) (gx_rpreV (ci := 5) (hP.sub (ws' := (wdPo_meanOf q_this q_totals q_many r_means c_totals c_many n_totals n_many f_size f_totals f_many)) [0, 1, 2] rfl) (hK.sub (tys' := [(c_totals, .int), (c_many, .int)]) [0, 1] rfl) hZ hS hA rfl rfl) rfl rfl hl.1 rfl (lv_room (Nat.le_of_ble_eq_true rfl)) dPo_addMeansTo_13 ⟨(Nat.le_of_ble_eq_true rfl), (Nat.le_of_ble_eq_true rfl)⟩) hP hS hA (fun r_2 H locs hv hP hS => ?_)
      have hFc := va_free (wc := (wdPa_add q_palette q_palette_levels c_palette_levels n_palette_levels f_palette_size f_palette_levels)) hD hS hA [3, 4] rfl
      refine gx_v (wr := [(q_this, .inr (5, [.ref q_totals, .ref q_many, .ref r_means, .int f_size])), (q_totals, .inl (c_totals, n_totals, .inl f_totals)), (q_many, .inl (c_many, n_many, .inl f_many))]) (va_runV (As := [.int r_2]) (rest := []) ⟨hx, hb, hml, hown, hB⟩ (metPa_add l dC dI q_palette q_palette_levels c_palette_levels n_palette_levels H.size f_palette_size f_palette_levels r_2 hv) (cwV 1 hB (gx_gV bw469 bw387 bw388 bw50 bw389) rfl rfl rfl (by decide +kernel) ⟨(Nat.le_of_ble_eq_true rfl), (Nat.le_of_ble_eq_true rfl)⟩) (gx_preV (ci := 4) (hP.sub (ws' := (wdPa_add q_palette q_palette_levels c_palette_levels n_palette_levels f_palette_size f_palette_levels)) [3, 4] rfl) (hK.sub (tys' := [(c_palette_levels, .int)]) [2] rfl) (hD.sub (ws' := (wdPa_add q_palette q_palette_levels c_palette_levels n_palette_levels f_palette_size f_palette_levels)) [3, 4] (by decide) rfl) hZ hS hFc rfl rfl) rfl rfl hl.1 rfl (lv_room (Nat.le_of_ble_eq_true rfl)) dPo_addMeansTo_16 ⟨(Nat.le_of_ble_eq_true rfl), (Nat.le_of_ble_eq_true rfl)⟩) hP hD hS hFc [3, 4] [0, 1, 2] rfl rfl (by decide) (by decide) (fun u_6 H locs hv hP hD hS => ?_)
      obtain ⟨f_palette_size_4, f_palette_levels_5⟩ := u_6
      have hP : va_P (dC, dI) vwCl (wdPo_addMeansTo q_this q_totals q_many q_palette q_palette_levels r_means c_totals c_many c_palette_levels n_totals n_many n_palette_levels f_size f_totals f_many f_palette_size_4 f_palette_levels_5) H := hP.sub [0, 1, 2, 3, 4] rfl
      have hD : va_D A (wdPo_addMeansTo q_this q_totals q_many q_palette q_palette_levels r_means c_totals c_many c_palette_levels n_totals n_many n_palette_levels f_size f_totals f_many f_palette_size_4 f_palette_levels_5) := hD.sub [0, 1, 2, 3, 4] (by decide) rfl
      refine lv_iinc (v := v2 + 1) (lv' := [(2, .int (v2 + 1)), (0, .ref q_this), (1, .ref q_palette)]) hx hb dPo_addMeansTo_19 hl (k := 2) rfl rfl (by decide) rfl (fun ls hl => ?_)
      refine lv_goto (tgt := 2) hx hb dPo_addMeansTo_22 (by decide) ?_
      rw [eK2, eG] at hv
      exact hv _ _ _ hP hD hS (lv_sub hl [1, 2, 0] rfl))
  rw [eG]
  refine lv_iconst (v := 0) hx hb dPo_addMeansTo_0 (by decide) ?_
  refine lv_istore_n (lv' := [(2, .int 0), (0, .ref q_this), (1, .ref q_palette)]) hx hb dPo_addMeansTo_1 rfl hl (by decide) rfl (fun ls hl => ?_)
  rw [eK2, eG] at hv
  exact hv _ _ _ hP hD hS (lv_sub hl [1, 2, 0] rfl)
abbrev wdPo_costOfJoining (q_this q_many q_means r_totals : Nat) (c_many c_means : ClassId) (n_many n_means : Nat) (f_size : Int32) (f_many : Nat → Int32) (f_means : Nat → Int32) : va_W := [(q_this, .inr (5, [.ref r_totals, .ref q_many, .ref q_means, .int f_size])), (q_many, .inl (c_many, n_many, .inl f_many)), (q_means, .inl (c_means, n_means, .inl f_means))]
set_option maxHeartbeats 4000000 in
set_option maxRecDepth 100000 in
theorem metPo_costOfJoining (l : Launch) (dC : Nat → ClassId) (dI : Nat → Nat → Nat) (q_this q_many q_means r_totals : Nat) (c_many c_means : ClassId) (n_many n_means : Nat) (sz : Nat) (f_size : Int32) (f_many : Nat → Int32) (f_means : Nat → Int32) (x1 : Int32) (x2 : Int32) {post : Int64 → Prop} (hw : wpPo_costOfJoining n_many n_means f_size f_many f_means x1 x2 post) : Met l yPo_costOfJoining (.code yPo_costOfJoining bPo_costOfJoining 4 (some .long) :: BIG) ({ frames := 2, cells := 0, slots := 0, locals := 44 }) (va_Pc [.ref q_this, .int x1, .int x2] (gx_rpre (dC, dI) vwCl (wdPo_costOfJoining q_this q_many q_means r_totals c_many c_means n_many n_means f_size f_many f_means) [(c_many, .int), (c_means, .int)] sz)) (va_Ql (fun r (u : Unit) => post r ) (fun _ _ => True) (fun q : Nat => sz ≤ q)) 0 0 (fun q : Nat => sz ≤ q) := by
  refine Met.ofW (cc := bPo_costOfJoining) (maxL := 4) (ret := (some .long)) (by decide) rfl ?_
  intro p e s m args below meth c s₁ B hml hv
  obtain ⟨rfl, hsz, hP, hK, hZ⟩ := hv
  have hx := B.exec
  have hb := B.bytes
  have hr := B.returns
  have hts := atoms_spec (ws := (.code yPo_costOfJoining bPo_costOfJoining 4 (some .long) :: BIG)) B.pre
  have hB : ∀ w ∈ BIG, w.before _ s = true := fun w h => hts w (List.mem_cons_of_mem _ h)
  have hown : s.vm.findClass RPo = some m.cls := findClass_of_methodNamed B.named
  have hlocks := B.notSynchronized
  subst hsz
  have hA : ∀ q : Nat, s.heap.size ≤ q → (fun q : Nat => s.heap.size ≤ q) q := fun _ h => h
  have hS : va_S (fun q : Nat => s.heap.size ≤ q) s.heap s.heap [] := va_S.rf
  have hl := lv_entry ([.ref q_this, .int x1, .int x2]) (n := 4) (Nat.le_of_ble_eq_true rfl)
  rw [lg_entry_eq]
  generalize (lg_sl ([.ref q_this, .int x1, .int x2]) ++ List.replicate (4 - (lg_sl ([.ref q_this, .int x1, .int x2])).length) Slot.unset).toArray = ls at hl ⊢
  have hl : lv_has ls 4 [(0, .ref q_this), (1, .int x1), (2, .int x2)] := hl
  have hL15 := (hB _ bw137)
  have hL18 := (hB _ bw139)
  unfold wpPo_costOfJoining at hw
  have hv := hw
  refine lv_aload_n hx hb dPo_costOfJoining_0 rfl (lv_at hl 0 rfl) ?_
  refine va_get (D := (dC, dI)) (ci := 5) (v := .ref q_many) (C := RPo) (T := TPo) (N := 4) hx hb hB hiPo hown hK hP 0 rfl rfl 1 (by decide) hL15 (fun _ h9 => h9) rfl dPo_costOfJoining_1 ?_
  refine lv_iload_n hx hb dPo_costOfJoining_4 rfl (lv_at hl 1 rfl) ?_
  obtain ⟨h_1, hv⟩ := hv
  refine va_iald hx hb hK hP 1 0 rfl rfl h_1 dPo_costOfJoining_5 ?_
  refine lv_aload_n hx hb dPo_costOfJoining_6 rfl (lv_at hl 0 rfl) ?_
  refine va_get (D := (dC, dI)) (ci := 5) (v := .ref q_many) (C := RPo) (T := TPo) (N := 4) hx hb hB hiPo hown hK hP 0 rfl rfl 1 (by decide) hL15 (fun _ h9 => h9) rfl dPo_costOfJoining_7 ?_
  refine lv_iload_n hx hb dPo_costOfJoining_10 rfl (lv_at hl 2 rfl) ?_
  obtain ⟨h_2, hv⟩ := hv
  refine va_iald hx hb hK hP 1 0 rfl rfl h_2 dPo_costOfJoining_11 ?_
  refine lv_iadd hx hb dPo_costOfJoining_12 ?_
  refine lv_topi (fun v3_3 ev3_3 => ?_)
  have hv := hv v3_3 ev3_3
  refine lv_istore_n (lv' := [(3, .int v3_3), (0, .ref q_this), (1, .int x1), (2, .int x2)]) hx hb dPo_costOfJoining_13 rfl hl (by decide) rfl (fun ls hl => ?_)
  refine lv_iload_n hx hb dPo_costOfJoining_14 rfl (lv_at hl 0 rfl) ?_
  refine lv_if_gt (tgt := 20) hx hb dPo_costOfJoining_15 (by decide) (fun c_4 => ?_) (fun c_4 => ?_)
  · have hv := hv.1 c_4
    refine lv_aload_n hx hb dPo_costOfJoining_20 rfl (lv_at hl 1 rfl) ?_
    refine va_get (D := (dC, dI)) (ci := 5) (v := .ref q_many) (C := RPo) (T := TPo) (N := 4) hx hb hB hiPo hown hK hP 0 rfl rfl 1 (by decide) hL15 (fun _ h9 => h9) rfl dPo_costOfJoining_21 ?_
    refine lv_iload_n hx hb dPo_costOfJoining_24 rfl (lv_at hl 2 rfl) ?_
    obtain ⟨h_5, hv⟩ := hv
    refine va_iald hx hb hK hP 1 0 rfl rfl h_5 dPo_costOfJoining_25 ?_
    refine lv_i2l hx hb dPo_costOfJoining_26 rfl ?_
    refine lv_aload_n hx hb dPo_costOfJoining_27 rfl (lv_at hl 1 rfl) ?_
    refine va_get (D := (dC, dI)) (ci := 5) (v := .ref q_many) (C := RPo) (T := TPo) (N := 4) hx hb hB hiPo hown hK hP 0 rfl rfl 1 (by decide) hL15 (fun _ h9 => h9) rfl dPo_costOfJoining_28 ?_
    refine lv_iload_n hx hb dPo_costOfJoining_31 rfl (lv_at hl 3 rfl) ?_
    obtain ⟨h_6, hv⟩ := hv
    refine va_iald hx hb hK hP 1 0 rfl rfl h_6 dPo_costOfJoining_32 ?_
    refine lv_i2l hx hb dPo_costOfJoining_33 rfl ?_
    refine lv_lmul hx hb dPo_costOfJoining_34 ?_
    refine lv_aload_n hx hb dPo_costOfJoining_35 rfl (lv_at hl 1 rfl) ?_
    refine va_get (D := (dC, dI)) (ci := 5) (v := .ref q_means) (C := RPo) (T := TPo) (N := 4) hx hb hB hiPo hown hK hP 0 rfl rfl 2 (by decide) hL18 (fun _ h9 => h9) rfl dPo_costOfJoining_36 ?_
    refine lv_iload_n hx hb dPo_costOfJoining_39 rfl (lv_at hl 2 rfl) ?_
    obtain ⟨h_7, hv⟩ := hv
    refine va_iald hx hb hK hP 2 1 rfl rfl h_7 dPo_costOfJoining_40 ?_
    refine lv_aload_n hx hb dPo_costOfJoining_41 rfl (lv_at hl 1 rfl) ?_
    refine va_get (D := (dC, dI)) (ci := 5) (v := .ref q_means) (C := RPo) (T := TPo) (N := 4) hx hb hB hiPo hown hK hP 0 rfl rfl 2 (by decide) hL18 (fun _ h9 => h9) rfl dPo_costOfJoining_42 ?_
    refine lv_iload_n hx hb dPo_costOfJoining_45 rfl (lv_at hl 3 rfl) ?_
    obtain ⟨h_8, hv⟩ := hv
    refine va_iald hx hb hK hP 2 1 rfl rfl h_8 dPo_costOfJoining_46 ?_
    refine gx_ri (va_runSN (As := [.int (f_means x1.toNatClampNeg), .int (f_means x2.toNatClampNeg)]) (rest := [.long (((f_many x1.toNatClampNeg).toInt64) * ((f_many x2.toNatClampNeg).toInt64))]) ⟨hx, hb, hml, hown, hB⟩ (metCL_farApart l dC dI s.heap.size (f_means x1.toNatClampNeg) (f_means x2.toNatClampNeg) hv) ⟨va_cnB 2 hB (gx_gN bw455) rfl rfl rfl (hZ.1 _ (List.mem_of_getElem? (i := 17) rfl)) (hB _ bw44) (by decide +kernel) ⟨(Nat.le_of_ble_eq_true rfl), (Nat.le_of_ble_eq_true rfl)⟩, (hB _ bw454), trivial⟩ (gx_rpreS (hP.sub (ws' := wdCL_farApart) [] rfl) (hK.sub (tys' := []) [] rfl) hZ hS hA) rfl rfl hl.1 rfl (lv_room (Nat.le_of_ble_eq_true rfl)) dPo_costOfJoining_47 ⟨(Nat.le_of_ble_eq_true rfl), (Nat.le_of_ble_eq_true rfl)⟩) hP hS hA (fun r_9 H locs hv hP hS => ?_)
    refine lv_i2l hx hb dPo_costOfJoining_50 rfl ?_
    refine lv_lmul hx hb dPo_costOfJoining_51 ?_
    refine lv_iload_n hx hb dPo_costOfJoining_52 rfl (lv_at hl 0 rfl) ?_
    refine lv_i2l hx hb dPo_costOfJoining_53 rfl ?_
    obtain ⟨h_11, hv⟩ := hv
    refine lv_ldiv hx hb dPo_costOfJoining_54 h_11 ?_
    exact W.lret (v := ((((f_many x1.toNatClampNeg).toInt64) * ((f_many x2.toNatClampNeg).toInt64)) * r_9.toInt64) / v3_3.toInt64) hx hb hr (fun t ht hW => ⟨⟨_, (), rfl, hv, trivial⟩, hS.F ht⟩) hS.2.2 dPo_costOfJoining_55
  · have hv := hv.2 c_4
    refine lv_lconst (v := 0) hx hb dPo_costOfJoining_18 (by decide) ?_
    exact W.lret (v := 0) hx hb hr (fun t ht hW => ⟨⟨_, (), rfl, hv, trivial⟩, hS.F ht⟩) hS.2.2 dPo_costOfJoining_19
abbrev wdPo_join (q_this q_totals q_many q_means : Nat) (c_totals c_many c_means : ClassId) (n_totals n_many n_means : Nat) (f_size : Int32) (f_totals : Nat → Int32) (f_many : Nat → Int32) (f_means : Nat → Int32) : va_W := [(q_this, .inr (5, [.ref q_totals, .ref q_many, .ref q_means, .int f_size])), (q_totals, .inl (c_totals, n_totals, .inl f_totals)), (q_many, .inl (c_many, n_many, .inl f_many)), (q_means, .inl (c_means, n_means, .inl f_means))]
set_option maxHeartbeats 4000000 in
set_option maxRecDepth 100000 in
theorem metPo_join (l : Launch) (dC : Nat → ClassId) (dI : Nat → Nat → Nat) (q_this q_totals q_many q_means : Nat) (c_totals c_many c_means : ClassId) (n_totals n_many n_means : Nat) (sz : Nat) (f_size : Int32) (f_totals : Nat → Int32) (f_many : Nat → Int32) (f_means : Nat → Int32) (x1 : Int32) (x2 : Int32) {post : Int32 → (Nat → Int32) → (Nat → Int32) → (Nat → Int32) → Prop} (hw : wpPo_join n_totals n_many n_means f_size f_totals f_many f_means x1 x2 post) : Met l yPo_join (.code yPo_join bPo_join 4 none :: BIG) ({ frames := 2, cells := 0, slots := 0, locals := 44 }) (va_Pc [.ref q_this, .int x1, .int x2] (gx_pre (dC, dI) vwCl (wdPo_join q_this q_totals q_many q_means c_totals c_many c_means n_totals n_many n_means f_size f_totals f_many f_means) [(c_totals, .int), (c_many, .int), (c_means, .int)] sz)) (va_Qv (fun (u : Int32 × (Nat → Int32) × (Nat → Int32) × (Nat → Int32)) => post u.1 u.2.1 u.2.2.1 u.2.2.2) (gx_B (dC, dI) vwCl (va_A (wdPo_join q_this q_totals q_many q_means c_totals c_many c_means n_totals n_many n_means f_size f_totals f_many f_means) sz) (fun (u : Int32 × (Nat → Int32) × (Nat → Int32) × (Nat → Int32)) => (wdPo_join q_this q_totals q_many q_means c_totals c_many c_means n_totals n_many n_means u.1 u.2.1 u.2.2.1 u.2.2.2))) (va_A (wdPo_join q_this q_totals q_many q_means c_totals c_many c_means n_totals n_many n_means f_size f_totals f_many f_means) sz)) 0 0 (va_A (wdPo_join q_this q_totals q_many q_means c_totals c_many c_means n_totals n_many n_means f_size f_totals f_many f_means) sz) := by
  refine Met.ofW (cc := bPo_join) (maxL := 4) (ret := none) (by decide) rfl ?_
  intro p e s m args below meth c s₁ B hml hv
  obtain ⟨rfl, hsz, hP, hK, hD0, hZ⟩ := hv
  have hx := B.exec
  have hb := B.bytes
  have hr := B.returns
  have hts := atoms_spec (ws := (.code yPo_join bPo_join 4 none :: BIG)) B.pre
  have hB : ∀ w ∈ BIG, w.before _ s = true := fun w h => hts w (List.mem_cons_of_mem _ h)
  have hown : s.vm.findClass RPo = some m.cls := findClass_of_methodNamed B.named
  have hlocks := B.notSynchronized
  subst hsz
  have hD := hD0.self (sz := s.heap.size)
  generalize hAe : va_A (wdPo_join q_this q_totals q_many q_means c_totals c_many c_means n_totals n_many n_means f_size f_totals f_many f_means) s.heap.size = A at hD hZ ⊢
  have hA : ∀ q : Nat, s.heap.size ≤ q → A q := fun q h => by rw [← hAe]; exact Or.inr h
  have hS : va_S A s.heap s.heap [] := va_S.rf
  have hl := lv_entry ([.ref q_this, .int x1, .int x2]) (n := 4) (Nat.le_of_ble_eq_true rfl)
  rw [lg_entry_eq]
  generalize (lg_sl ([.ref q_this, .int x1, .int x2]) ++ List.replicate (4 - (lg_sl ([.ref q_this, .int x1, .int x2])).length) Slot.unset).toArray = ls at hl ⊢
  have hl : lv_has ls 4 [(0, .ref q_this), (1, .int x1), (2, .int x2)] := hl
  have hL9 := (hB _ bw136)
  have hL15 := (hB _ bw137)
  have hL18 := (hB _ bw139)
  have hL27 := (hB _ bw140)
  refine gx_abs (fun G eG => ?_)
  obtain ⟨K2, eK2⟩ : ∃ K : Int32 → Int32 → (Nat → Int32) → (Nat → Int32) → (Nat → Int32) → Prop, K = fun v3 f_size f_totals f_many f_means => ∀ (H : Heap) (locs : List Loc) (ls : Array Slot), va_P (dC, dI) vwCl (wdPo_join q_this q_totals q_many q_means c_totals c_many c_means n_totals n_many n_means f_size f_totals f_many f_means) H → va_D A (wdPo_join q_this q_totals q_many q_means c_totals c_many c_means n_totals n_many n_means f_size f_totals f_many f_means) → va_S A s.heap H locs → lv_has ls 4 [(0, .ref q_this), (1, .int x1), (2, .int x2), (3, .int v3)] → G H locs 0 0 (F0 m 2 ls []) := ⟨_, rfl⟩
  unfold wpPo_join at hw
  have hv := hw K2
  have hv := hv (by
    intro v3 f_size f_totals f_many f_means hv
    rw [eK2]
    intro H locs ls hP hD hS hl
    rw [eG]
    unfold vcPo_join_2 at hv
    refine lv_iload_n hx hb dPo_join_2 rfl (lv_at hl 3 rfl) ?_
    refine lv_iconst (v := 4) hx hb dPo_join_3 (by decide) ?_
    refine lv_icmp_ge (tgt := 36) hx hb dPo_join_4 (by decide) (fun c_1 => ?_) (fun c_1 => ?_)
    · have hv := hv.1 c_1
      refine lv_aload_n hx hb dPo_join_36 rfl (lv_at hl 0 rfl) ?_
      refine va_get (D := (dC, dI)) (ci := 5) (v := .ref q_many) (C := RPo) (T := TPo) (N := 4) hx hb hB hiPo hown hK hP 0 rfl rfl 1 (by decide) hL15 (fun _ h9 => h9) rfl dPo_join_37 ?_
      refine lv_iload_n hx hb dPo_join_40 rfl (lv_at hl 1 rfl) ?_
      refine lv_dup2_11 hx hb dPo_join_41 rfl rfl ?_
      obtain ⟨h_2, hv⟩ := hv
      refine va_iald hx hb hK hP 2 1 rfl rfl h_2 dPo_join_42 ?_
      refine lv_aload_n hx hb dPo_join_43 rfl (lv_at hl 0 rfl) ?_
      refine va_get (D := (dC, dI)) (ci := 5) (v := .ref q_many) (C := RPo) (T := TPo) (N := 4) hx hb hB hiPo hown hK hP 0 rfl rfl 1 (by decide) hL15 (fun _ h9 => h9) rfl dPo_join_44 ?_
      refine lv_iload_n hx hb dPo_join_47 rfl (lv_at hl 2 rfl) ?_
      obtain ⟨h_3, hv⟩ := hv
      refine va_iald hx hb hK hP 2 1 rfl rfl h_3 dPo_join_48 ?_
      refine lv_iadd hx hb dPo_join_49 ?_
      obtain ⟨h_4, hv⟩ := hv
      refine va_iast hx hb hK hP hD hS 2 1 rfl rfl h_4 dPo_join_50 (fun H locs hP hD hS => ?_)
      have hP : va_P (dC, dI) vwCl (wdPo_join q_this q_totals q_many q_means c_totals c_many c_means n_totals n_many n_means f_size f_totals (upd f_many x1.toNatClampNeg ((f_many x1.toNatClampNeg) + (f_many x2.toNatClampNeg))) f_means) H := hP
      have hD : va_D A (wdPo_join q_this q_totals q_many q_means c_totals c_many c_means n_totals n_many n_means f_size f_totals (upd f_many x1.toNatClampNeg ((f_many x1.toNatClampNeg) + (f_many x2.toNatClampNeg))) f_means) := hD
      refine lv_aload_n hx hb dPo_join_51 rfl (lv_at hl 0 rfl) ?_
      refine va_get (D := (dC, dI)) (ci := 5) (v := .ref q_means) (C := RPo) (T := TPo) (N := 4) hx hb hB hiPo hown hK hP 0 rfl rfl 2 (by decide) hL18 (fun _ h9 => h9) rfl dPo_join_52 ?_
      refine lv_iload_n hx hb dPo_join_55 rfl (lv_at hl 1 rfl) ?_
      refine lv_aload_n hx hb dPo_join_56 rfl (lv_at hl 0 rfl) ?_
      refine lv_iload_n hx hb dPo_join_57 rfl (lv_at hl 1 rfl) ?_
      refine gx_ri (va_runV (As := [.int x1]) (rest := [.int x1, .ref q_means]) ⟨hx, hb, hml, hown, hB⟩ (metPo_meanOf l dC dI q_this q_totals q_many q_means c_totals c_many n_totals n_many H.size f_size f_totals (upd f_many x1.toNatClampNeg ((f_many x1.toNatClampNeg) + (f_many x2.toNatClampNeg))) x1 hv) (cwV 1 hB (gx_gV bw440 bw441 bw442 bw48 bw443) rfl rfl rfl (by decide +kernel) ⟨(Nat.le_of_ble_eq_true rfl), (Nat.le_of_ble_eq_true rfl)⟩) (gx_rpreV (ci := 5) (hP.sub (ws' := (wdPo_meanOf q_this q_totals q_many q_means c_totals c_many n_totals n_many f_size f_totals (upd f_many x1.toNatClampNeg ((f_many x1.toNatClampNeg) + (f_many x2.toNatClampNeg))))) [0, 1, 2] rfl) (hK.sub (tys' := [(c_totals, .int), (c_many, .int)]) [0, 1] rfl) hZ hS hA rfl rfl) rfl rfl hl.1 rfl (lv_room (Nat.le_of_ble_eq_true rfl)) dPo_join_58 ⟨(Nat.le_of_ble_eq_true rfl), (Nat.le_of_ble_eq_true rfl)⟩) hP hS hA (fun r_6 H locs hv hP hS => ?_)
      obtain ⟨h_8, hv⟩ := hv
      refine va_iast hx hb hK hP hD hS 3 2 rfl rfl h_8 dPo_join_61 (fun H locs hP hD hS => ?_)
      have hP : va_P (dC, dI) vwCl (wdPo_join q_this q_totals q_many q_means c_totals c_many c_means n_totals n_many n_means f_size f_totals (upd f_many x1.toNatClampNeg ((f_many x1.toNatClampNeg) + (f_many x2.toNatClampNeg))) (upd f_means x1.toNatClampNeg r_6)) H := hP
      have hD : va_D A (wdPo_join q_this q_totals q_many q_means c_totals c_many c_means n_totals n_many n_means f_size f_totals (upd f_many x1.toNatClampNeg ((f_many x1.toNatClampNeg) + (f_many x2.toNatClampNeg))) (upd f_means x1.toNatClampNeg r_6)) := hD
      refine lv_aload_n hx hb dPo_join_62 rfl (lv_at hl 0 rfl) ?_
      refine va_get (D := (dC, dI)) (ci := 5) (v := .int f_size) (C := RPo) (T := TPo) (N := 4) hx hb hB hiPo hown hK hP 0 rfl rfl 3 (by decide) hL27 (fun _ h9 => h9) rfl dPo_join_63 ?_
      refine lv_iload_n hx hb dPo_join_66 rfl (lv_at hl 2 rfl) ?_
      refine lv_isub hx hb dPo_join_67 ?_
      refine lv_iconst (v := 1) hx hb dPo_join_68 (by decide) ?_
      refine lv_isub hx hb dPo_join_69 ?_
      refine lv_topi (fun v3_10 ev3_10 => ?_)
      have hv := hv v3_10 ev3_10
      refine lv_istore_n (lv' := [(3, .int v3_10), (0, .ref q_this), (1, .int x1), (2, .int x2)]) hx hb dPo_join_70 rfl hl (by decide) rfl (fun ls hl => ?_)
      refine lv_aload_n hx hb dPo_join_71 rfl (lv_at hl 1 rfl) ?_
      refine va_get (D := (dC, dI)) (ci := 5) (v := .ref q_totals) (C := RPo) (T := TPo) (N := 4) hx hb hB hiPo hown hK hP 0 rfl rfl 0 (by decide) hL9 (fun _ h9 => h9) rfl dPo_join_72 ?_
      refine lv_iload_n hx hb dPo_join_75 rfl (lv_at hl 3 rfl) ?_
      refine lv_iconst (v := 1) hx hb dPo_join_76 (by decide) ?_
      refine lv_iadd hx hb dPo_join_77 ?_
      refine lv_iconst (v := 4) hx hb dPo_join_78 (by decide) ?_
      refine lv_imul hx hb dPo_join_79 ?_
      refine lv_aload_n hx hb dPo_join_80 rfl (lv_at hl 1 rfl) ?_
      refine va_get (D := (dC, dI)) (ci := 5) (v := .ref q_totals) (C := RPo) (T := TPo) (N := 4) hx hb hB hiPo hown hK hP 0 rfl rfl 0 (by decide) hL9 (fun _ h9 => h9) rfl dPo_join_81 ?_
      refine lv_iload_n hx hb dPo_join_84 rfl (lv_at hl 3 rfl) ?_
      refine lv_iconst (v := 4) hx hb dPo_join_85 (by decide) ?_
      refine lv_imul hx hb dPo_join_86 ?_
      refine lv_iload_n hx hb dPo_join_87 rfl (lv_at hl 0 rfl) ?_
      refine lv_iconst (v := 4) hx hb dPo_join_88 (by decide) ?_
      refine lv_imul hx hb dPo_join_89 ?_
      obtain ⟨h_11, h_12, h_13, h_14, h_15, hv⟩ := hv
      refine va_copyi (ty := .int) (sp := (x2 + 1) * 4) (dp := x2 * 4) (n := v3_10 * 4) (rest := []) hx hb (by rw [hml]; exact hl.1.symm) hown (hB _ bw462) (hB _ bw464) (hB _ bw463) (hB _ bw60) hK hP hD hS 1 1 0 0 rfl rfl rfl rfl (by decide) h_11 h_12 h_13 h_14 h_15 (fun _ _ => rfl) (Nat.le_of_ble_eq_true rfl) (Nat.le_of_ble_eq_true rfl) dPo_join_90 (fun H locs hP hD hS => ?_)
      have hP : va_P (dC, dI) vwCl (wdPo_join q_this q_totals q_many q_means c_totals c_many c_means n_totals n_many n_means f_size (va_cpy f_totals f_totals ((x2 + 1) * 4).toNatClampNeg (x2 * 4).toNatClampNeg (v3_10 * 4).toNatClampNeg) (upd f_many x1.toNatClampNeg ((f_many x1.toNatClampNeg) + (f_many x2.toNatClampNeg))) (upd f_means x1.toNatClampNeg r_6)) H := hP
      have hD : va_D A (wdPo_join q_this q_totals q_many q_means c_totals c_many c_means n_totals n_many n_means f_size (va_cpy f_totals f_totals ((x2 + 1) * 4).toNatClampNeg (x2 * 4).toNatClampNeg (v3_10 * 4).toNatClampNeg) (upd f_many x1.toNatClampNeg ((f_many x1.toNatClampNeg) + (f_many x2.toNatClampNeg))) (upd f_means x1.toNatClampNeg r_6)) := hD
      refine lv_aload_n hx hb dPo_join_93 rfl (lv_at hl 1 rfl) ?_
      refine va_get (D := (dC, dI)) (ci := 5) (v := .ref q_many) (C := RPo) (T := TPo) (N := 4) hx hb hB hiPo hown hK hP 0 rfl rfl 1 (by decide) hL15 (fun _ h9 => h9) rfl dPo_join_94 ?_
      refine lv_iload_n hx hb dPo_join_97 rfl (lv_at hl 3 rfl) ?_
      refine lv_iconst (v := 1) hx hb dPo_join_98 (by decide) ?_
      refine lv_iadd hx hb dPo_join_99 ?_
      refine lv_aload_n hx hb dPo_join_100 rfl (lv_at hl 1 rfl) ?_
      refine va_get (D := (dC, dI)) (ci := 5) (v := .ref q_many) (C := RPo) (T := TPo) (N := 4) hx hb hB hiPo hown hK hP 0 rfl rfl 1 (by decide) hL15 (fun _ h9 => h9) rfl dPo_join_101 ?_
      refine lv_iload_n hx hb dPo_join_104 rfl (lv_at hl 3 rfl) ?_
      refine lv_iload_n hx hb dPo_join_105 rfl (lv_at hl 0 rfl) ?_
      obtain ⟨h_16, h_17, h_18, h_19, h_20, hv⟩ := hv
      refine va_copyi (ty := .int) (sp := x2 + 1) (dp := x2) (n := v3_10) (rest := []) hx hb (by rw [hml]; exact hl.1.symm) hown (hB _ bw462) (hB _ bw464) (hB _ bw463) (hB _ bw60) hK hP hD hS 2 2 1 1 rfl rfl rfl rfl (by decide) h_16 h_17 h_18 h_19 h_20 (fun _ _ => rfl) (Nat.le_of_ble_eq_true rfl) (Nat.le_of_ble_eq_true rfl) dPo_join_106 (fun H locs hP hD hS => ?_)
      have hP : va_P (dC, dI) vwCl (wdPo_join q_this q_totals q_many q_means c_totals c_many c_means n_totals n_many n_means f_size (va_cpy f_totals f_totals ((x2 + 1) * 4).toNatClampNeg (x2 * 4).toNatClampNeg (v3_10 * 4).toNatClampNeg) (va_cpy (upd f_many x1.toNatClampNeg ((f_many x1.toNatClampNeg) + (f_many x2.toNatClampNeg))) (upd f_many x1.toNatClampNeg ((f_many x1.toNatClampNeg) + (f_many x2.toNatClampNeg))) (x2 + 1).toNatClampNeg x2.toNatClampNeg v3_10.toNatClampNeg) (upd f_means x1.toNatClampNeg r_6)) H := hP
      have hD : va_D A (wdPo_join q_this q_totals q_many q_means c_totals c_many c_means n_totals n_many n_means f_size (va_cpy f_totals f_totals ((x2 + 1) * 4).toNatClampNeg (x2 * 4).toNatClampNeg (v3_10 * 4).toNatClampNeg) (va_cpy (upd f_many x1.toNatClampNeg ((f_many x1.toNatClampNeg) + (f_many x2.toNatClampNeg))) (upd f_many x1.toNatClampNeg ((f_many x1.toNatClampNeg) + (f_many x2.toNatClampNeg))) (x2 + 1).toNatClampNeg x2.toNatClampNeg v3_10.toNatClampNeg) (upd f_means x1.toNatClampNeg r_6)) := hD
      refine lv_aload_n hx hb dPo_join_109 rfl (lv_at hl 1 rfl) ?_
      refine va_get (D := (dC, dI)) (ci := 5) (v := .ref q_means) (C := RPo) (T := TPo) (N := 4) hx hb hB hiPo hown hK hP 0 rfl rfl 2 (by decide) hL18 (fun _ h9 => h9) rfl dPo_join_110 ?_
      refine lv_iload_n hx hb dPo_join_113 rfl (lv_at hl 3 rfl) ?_
      refine lv_iconst (v := 1) hx hb dPo_join_114 (by decide) ?_
      refine lv_iadd hx hb dPo_join_115 ?_
      refine lv_aload_n hx hb dPo_join_116 rfl (lv_at hl 1 rfl) ?_
      refine va_get (D := (dC, dI)) (ci := 5) (v := .ref q_means) (C := RPo) (T := TPo) (N := 4) hx hb hB hiPo hown hK hP 0 rfl rfl 2 (by decide) hL18 (fun _ h9 => h9) rfl dPo_join_117 ?_
      refine lv_iload_n hx hb dPo_join_120 rfl (lv_at hl 3 rfl) ?_
      refine lv_iload_n hx hb dPo_join_121 rfl (lv_at hl 0 rfl) ?_
      obtain ⟨h_21, h_22, h_23, h_24, h_25, hv⟩ := hv
      refine va_copyi (ty := .int) (sp := x2 + 1) (dp := x2) (n := v3_10) (rest := []) hx hb (by rw [hml]; exact hl.1.symm) hown (hB _ bw462) (hB _ bw464) (hB _ bw463) (hB _ bw60) hK hP hD hS 3 3 2 2 rfl rfl rfl rfl (by decide) h_21 h_22 h_23 h_24 h_25 (fun _ _ => rfl) (Nat.le_of_ble_eq_true rfl) (Nat.le_of_ble_eq_true rfl) dPo_join_122 (fun H locs hP hD hS => ?_)
      have hP : va_P (dC, dI) vwCl (wdPo_join q_this q_totals q_many q_means c_totals c_many c_means n_totals n_many n_means f_size (va_cpy f_totals f_totals ((x2 + 1) * 4).toNatClampNeg (x2 * 4).toNatClampNeg (v3_10 * 4).toNatClampNeg) (va_cpy (upd f_many x1.toNatClampNeg ((f_many x1.toNatClampNeg) + (f_many x2.toNatClampNeg))) (upd f_many x1.toNatClampNeg ((f_many x1.toNatClampNeg) + (f_many x2.toNatClampNeg))) (x2 + 1).toNatClampNeg x2.toNatClampNeg v3_10.toNatClampNeg) (va_cpy (upd f_means x1.toNatClampNeg r_6) (upd f_means x1.toNatClampNeg r_6) (x2 + 1).toNatClampNeg x2.toNatClampNeg v3_10.toNatClampNeg)) H := hP
      have hD : va_D A (wdPo_join q_this q_totals q_many q_means c_totals c_many c_means n_totals n_many n_means f_size (va_cpy f_totals f_totals ((x2 + 1) * 4).toNatClampNeg (x2 * 4).toNatClampNeg (v3_10 * 4).toNatClampNeg) (va_cpy (upd f_many x1.toNatClampNeg ((f_many x1.toNatClampNeg) + (f_many x2.toNatClampNeg))) (upd f_many x1.toNatClampNeg ((f_many x1.toNatClampNeg) + (f_many x2.toNatClampNeg))) (x2 + 1).toNatClampNeg x2.toNatClampNeg v3_10.toNatClampNeg) (va_cpy (upd f_means x1.toNatClampNeg r_6) (upd f_means x1.toNatClampNeg r_6) (x2 + 1).toNatClampNeg x2.toNatClampNeg v3_10.toNatClampNeg)) := hD
      refine lv_aload_n hx hb dPo_join_125 rfl (lv_at hl 1 rfl) ?_
      refine lv_dup hx hb dPo_join_126 rfl ?_
      refine va_get (D := (dC, dI)) (ci := 5) (v := .int f_size) (C := RPo) (T := TPo) (N := 4) hx hb hB hiPo hown hK hP 0 rfl rfl 3 (by decide) hL27 (fun _ h9 => h9) rfl dPo_join_127 ?_
      refine lv_iconst (v := 1) hx hb dPo_join_130 (by decide) ?_
      refine lv_isub hx hb dPo_join_131 ?_
      refine lv_topi (fun w_26 ew_26 => ?_)
      have hv := hv w_26 ew_26
      refine va_put (D := (dC, dI)) (ci := 5) (v := .int w_26) (ty := .int) (C := RPo) (T := TPo) (N := 4) hx hb hB hiPo tPo tPo_ok nPo hown hK hP hD hS 0 rfl rfl 3 (by decide) hL27 (fun _ h9 => h9) rfl (by decide +kernel) rfl rfl (Nat.le_of_ble_eq_true rfl) dPo_join_132 (fun H locs hP hD hS => ?_)
      have hP : va_P (dC, dI) vwCl (wdPo_join q_this q_totals q_many q_means c_totals c_many c_means n_totals n_many n_means w_26 (va_cpy f_totals f_totals ((x2 + 1) * 4).toNatClampNeg (x2 * 4).toNatClampNeg (v3_10 * 4).toNatClampNeg) (va_cpy (upd f_many x1.toNatClampNeg ((f_many x1.toNatClampNeg) + (f_many x2.toNatClampNeg))) (upd f_many x1.toNatClampNeg ((f_many x1.toNatClampNeg) + (f_many x2.toNatClampNeg))) (x2 + 1).toNatClampNeg x2.toNatClampNeg v3_10.toNatClampNeg) (va_cpy (upd f_means x1.toNatClampNeg r_6) (upd f_means x1.toNatClampNeg r_6) (x2 + 1).toNatClampNeg x2.toNatClampNeg v3_10.toNatClampNeg)) H := hP
      have hD : va_D A (wdPo_join q_this q_totals q_many q_means c_totals c_many c_means n_totals n_many n_means w_26 (va_cpy f_totals f_totals ((x2 + 1) * 4).toNatClampNeg (x2 * 4).toNatClampNeg (v3_10 * 4).toNatClampNeg) (va_cpy (upd f_many x1.toNatClampNeg ((f_many x1.toNatClampNeg) + (f_many x2.toNatClampNeg))) (upd f_many x1.toNatClampNeg ((f_many x1.toNatClampNeg) + (f_many x2.toNatClampNeg))) (x2 + 1).toNatClampNeg x2.toNatClampNeg v3_10.toNatClampNeg) (va_cpy (upd f_means x1.toNatClampNeg r_6) (upd f_means x1.toNatClampNeg r_6) (x2 + 1).toNatClampNeg x2.toNatClampNeg v3_10.toNatClampNeg)) := hD
      exact W.vret hx hb hr (fun t ht hW => ⟨⟨(w_26, va_cpy f_totals f_totals ((x2 + 1) * 4).toNatClampNeg (x2 * 4).toNatClampNeg (v3_10 * 4).toNatClampNeg, va_cpy (upd f_many x1.toNatClampNeg ((f_many x1.toNatClampNeg) + (f_many x2.toNatClampNeg))) (upd f_many x1.toNatClampNeg ((f_many x1.toNatClampNeg) + (f_many x2.toNatClampNeg))) (x2 + 1).toNatClampNeg x2.toNatClampNeg v3_10.toNatClampNeg, va_cpy (upd f_means x1.toNatClampNeg r_6) (upd f_means x1.toNatClampNeg r_6) (x2 + 1).toNatClampNeg x2.toNatClampNeg v3_10.toNatClampNeg), rfl, hv, by rw [ht]; exact hP, hD⟩, hS.F ht⟩) hS.2.2 dPo_join_135
    · have hv := hv.2 c_1
      refine lv_aload_n hx hb dPo_join_7 rfl (lv_at hl 0 rfl) ?_
      refine va_get (D := (dC, dI)) (ci := 5) (v := .ref q_totals) (C := RPo) (T := TPo) (N := 4) hx hb hB hiPo hown hK hP 0 rfl rfl 0 (by decide) hL9 (fun _ h9 => h9) rfl dPo_join_8 ?_
      refine lv_iload_n hx hb dPo_join_11 rfl (lv_at hl 1 rfl) ?_
      refine lv_iconst (v := 4) hx hb dPo_join_12 (by decide) ?_
      refine lv_imul hx hb dPo_join_13 ?_
      refine lv_iload_n hx hb dPo_join_14 rfl (lv_at hl 3 rfl) ?_
      refine lv_iadd hx hb dPo_join_15 ?_
      refine lv_dup2_11 hx hb dPo_join_16 rfl rfl ?_
      obtain ⟨h_27, hv⟩ := hv
      refine va_iald hx hb hK hP 1 0 rfl rfl h_27 dPo_join_17 ?_
      refine lv_aload_n hx hb dPo_join_18 rfl (lv_at hl 0 rfl) ?_
      refine va_get (D := (dC, dI)) (ci := 5) (v := .ref q_totals) (C := RPo) (T := TPo) (N := 4) hx hb hB hiPo hown hK hP 0 rfl rfl 0 (by decide) hL9 (fun _ h9 => h9) rfl dPo_join_19 ?_
      refine lv_iload_n hx hb dPo_join_22 rfl (lv_at hl 2 rfl) ?_
      refine lv_iconst (v := 4) hx hb dPo_join_23 (by decide) ?_
      refine lv_imul hx hb dPo_join_24 ?_
      refine lv_iload_n hx hb dPo_join_25 rfl (lv_at hl 3 rfl) ?_
      refine lv_iadd hx hb dPo_join_26 ?_
      obtain ⟨h_28, hv⟩ := hv
      refine va_iald hx hb hK hP 1 0 rfl rfl h_28 dPo_join_27 ?_
      refine lv_iadd hx hb dPo_join_28 ?_
      obtain ⟨h_29, hv⟩ := hv
      refine va_iast hx hb hK hP hD hS 1 0 rfl rfl h_29 dPo_join_29 (fun H locs hP hD hS => ?_)
      have hP : va_P (dC, dI) vwCl (wdPo_join q_this q_totals q_many q_means c_totals c_many c_means n_totals n_many n_means f_size (upd f_totals ((x1 * 4) + v3).toNatClampNeg ((f_totals ((x1 * 4) + v3).toNatClampNeg) + (f_totals ((x2 * 4) + v3).toNatClampNeg))) f_many f_means) H := hP
      have hD : va_D A (wdPo_join q_this q_totals q_many q_means c_totals c_many c_means n_totals n_many n_means f_size (upd f_totals ((x1 * 4) + v3).toNatClampNeg ((f_totals ((x1 * 4) + v3).toNatClampNeg) + (f_totals ((x2 * 4) + v3).toNatClampNeg))) f_many f_means) := hD
      refine lv_iinc (v := v3 + 1) (lv' := [(3, .int (v3 + 1)), (0, .ref q_this), (1, .int x1), (2, .int x2)]) hx hb dPo_join_30 hl (k := 3) rfl rfl (by decide) rfl (fun ls hl => ?_)
      refine lv_goto (tgt := 2) hx hb dPo_join_33 (by decide) ?_
      rw [eK2, eG] at hv
      exact hv _ _ _ hP hD hS (lv_sub hl [1, 2, 3, 0] rfl))
  rw [eG]
  refine lv_iconst (v := 0) hx hb dPo_join_0 (by decide) ?_
  refine lv_istore_n (lv' := [(3, .int 0), (0, .ref q_this), (1, .int x1), (2, .int x2)]) hx hb dPo_join_1 rfl hl (by decide) rfl (fun ls hl => ?_)
  rw [eK2, eG] at hv
  exact hv _ _ _ hP hD hS (lv_sub hl [1, 2, 3, 0] rfl)
abbrev wdPo_joinCheapestPair (q_this q_totals q_many q_means : Nat) (c_totals c_many c_means : ClassId) (n_totals n_many n_means : Nat) (f_size : Int32) (f_totals : Nat → Int32) (f_many : Nat → Int32) (f_means : Nat → Int32) : va_W := [(q_this, .inr (5, [.ref q_totals, .ref q_many, .ref q_means, .int f_size])), (q_totals, .inl (c_totals, n_totals, .inl f_totals)), (q_many, .inl (c_many, n_many, .inl f_many)), (q_means, .inl (c_means, n_means, .inl f_means))]
set_option maxHeartbeats 4000000 in
set_option maxRecDepth 100000 in
theorem metPo_joinCheapestPair (l : Launch) (dC : Nat → ClassId) (dI : Nat → Nat → Nat) (q_this q_totals q_many q_means : Nat) (c_totals c_many c_means : ClassId) (n_totals n_many n_means : Nat) (sz : Nat) (f_size : Int32) (f_totals : Nat → Int32) (f_many : Nat → Int32) (f_means : Nat → Int32) {post : Int32 → (Nat → Int32) → (Nat → Int32) → (Nat → Int32) → Prop} (hw : wpPo_joinCheapestPair n_totals n_many n_means f_size f_totals f_many f_means post) : Met l yPo_joinCheapestPair (.code yPo_joinCheapestPair bPo_joinCheapestPair 9 none :: BIG) ({ frames := 3, cells := 0, slots := 0, locals := 67 }) (va_Pc [.ref q_this] (gx_pre (dC, dI) vwCl (wdPo_joinCheapestPair q_this q_totals q_many q_means c_totals c_many c_means n_totals n_many n_means f_size f_totals f_many f_means) [(c_totals, .int), (c_many, .int), (c_means, .int)] sz)) (va_Qv (fun (u : Int32 × (Nat → Int32) × (Nat → Int32) × (Nat → Int32)) => post u.1 u.2.1 u.2.2.1 u.2.2.2) (gx_B (dC, dI) vwCl (va_A (wdPo_joinCheapestPair q_this q_totals q_many q_means c_totals c_many c_means n_totals n_many n_means f_size f_totals f_many f_means) sz) (fun (u : Int32 × (Nat → Int32) × (Nat → Int32) × (Nat → Int32)) => (wdPo_joinCheapestPair q_this q_totals q_many q_means c_totals c_many c_means n_totals n_many n_means u.1 u.2.1 u.2.2.1 u.2.2.2))) (va_A (wdPo_joinCheapestPair q_this q_totals q_many q_means c_totals c_many c_means n_totals n_many n_means f_size f_totals f_many f_means) sz)) 0 0 (va_A (wdPo_joinCheapestPair q_this q_totals q_many q_means c_totals c_many c_means n_totals n_many n_means f_size f_totals f_many f_means) sz) := by
  refine Met.ofW (cc := bPo_joinCheapestPair) (maxL := 9) (ret := none) (by decide) rfl ?_
  intro p e s m args below meth c s₁ B hml hv
  obtain ⟨rfl, hsz, hP, hK, hD0, hZ⟩ := hv
  have hx := B.exec
  have hb := B.bytes
  have hr := B.returns
  have hts := atoms_spec (ws := (.code yPo_joinCheapestPair bPo_joinCheapestPair 9 none :: BIG)) B.pre
  have hB : ∀ w ∈ BIG, w.before _ s = true := fun w h => hts w (List.mem_cons_of_mem _ h)
  have hown : s.vm.findClass RPo = some m.cls := findClass_of_methodNamed B.named
  have hlocks := B.notSynchronized
  subst hsz
  have hD := hD0.self (sz := s.heap.size)
  generalize hAe : va_A (wdPo_joinCheapestPair q_this q_totals q_many q_means c_totals c_many c_means n_totals n_many n_means f_size f_totals f_many f_means) s.heap.size = A at hD hZ ⊢
  have hA : ∀ q : Nat, s.heap.size ≤ q → A q := fun q h => by rw [← hAe]; exact Or.inr h
  have hS : va_S A s.heap s.heap [] := va_S.rf
  have hl := lv_entry ([.ref q_this]) (n := 9) (Nat.le_of_ble_eq_true rfl)
  rw [lg_entry_eq]
  generalize (lg_sl ([.ref q_this]) ++ List.replicate (9 - (lg_sl ([.ref q_this])).length) Slot.unset).toArray = ls at hl ⊢
  have hl : lv_has ls 9 [(0, .ref q_this)] := hl
  have hL27 := (hB _ bw140)
  refine gx_abs (fun G eG => ?_)
  obtain ⟨K11, eK11⟩ : ∃ K : Int32 → Int32 → Int64 → Int32 → Int32 → (Nat → Int32) → (Nat → Int32) → (Nat → Int32) → Prop, K = fun v1 v2 v3 v5 f_size f_totals f_many f_means => ∀ (H : Heap) (locs : List Loc) (ls : Array Slot), va_P (dC, dI) vwCl (wdPo_joinCheapestPair q_this q_totals q_many q_means c_totals c_many c_means n_totals n_many n_means f_size f_totals f_many f_means) H → va_D A (wdPo_joinCheapestPair q_this q_totals q_many q_means c_totals c_many c_means n_totals n_many n_means f_size f_totals f_many f_means) → va_S A s.heap H locs → lv_has ls 9 [(0, .ref q_this), (1, .int v1), (2, .int v2), (3, .long v3), (5, .int v5)] → G H locs 0 0 (F0 m 11 ls []) := ⟨_, rfl⟩
  obtain ⟨K26, eK26⟩ : ∃ K : Int32 → Int32 → Int64 → Int32 → Int32 → Int32 → (Nat → Int32) → (Nat → Int32) → (Nat → Int32) → Prop, K = fun v1 v2 v3 v5 v6 f_size f_totals f_many f_means => ∀ (H : Heap) (locs : List Loc) (ls : Array Slot), va_P (dC, dI) vwCl (wdPo_joinCheapestPair q_this q_totals q_many q_means c_totals c_many c_means n_totals n_many n_means f_size f_totals f_many f_means) H → va_D A (wdPo_joinCheapestPair q_this q_totals q_many q_means c_totals c_many c_means n_totals n_many n_means f_size f_totals f_many f_means) → va_S A s.heap H locs → lv_has ls 9 [(0, .ref q_this), (1, .int v1), (2, .int v2), (3, .long v3), (5, .int v5), (6, .int v6)] → G H locs 0 0 (F0 m 26 ls []) := ⟨_, rfl⟩
  have j61 : ∀ (v1 : Int32) (v2 : Int32) (v3 : Int64) (v5 : Int32) (v6 : Int32) (f_size : Int32) (f_totals : Nat → Int32) (f_many : Nat → Int32) (f_means : Nat → Int32), vcPo_joinCheapestPair_61 n_totals n_many n_means K11 K26 post v1 v2 v3 v5 v6 f_size f_totals f_many f_means → ∀ (H : Heap) (locs : List Loc) (ls : Array Slot), va_P (dC, dI) vwCl (wdPo_joinCheapestPair q_this q_totals q_many q_means c_totals c_many c_means n_totals n_many n_means f_size f_totals f_many f_means) H → va_D A (wdPo_joinCheapestPair q_this q_totals q_many q_means c_totals c_many c_means n_totals n_many n_means f_size f_totals f_many f_means) → va_S A s.heap H locs → lv_has ls 9 [(0, .ref q_this), (1, .int v1), (2, .int v2), (3, .long v3), (5, .int v5), (6, .int v6)] → G H locs 0 0 (F0 m 61 ls []) := by
    intro v1 v2 v3 v5 v6 f_size f_totals f_many f_means hv H locs ls hP hD hS hl
    rw [eG]
    unfold vcPo_joinCheapestPair_61 at hv
    refine lv_iinc (v := v6 + 1) (lv' := [(6, .int (v6 + 1)), (0, .ref q_this), (1, .int v1), (2, .int v2), (3, .long v3), (5, .int v5)]) hx hb dPo_joinCheapestPair_61 hl (k := 5) rfl rfl (by decide) rfl (fun ls hl => ?_)
    refine lv_goto (tgt := 26) hx hb dPo_joinCheapestPair_64 (by decide) ?_
    rw [eK26, eG] at hv
    exact hv _ _ _ hP hD hS (lv_sub hl [1, 2, 3, 4, 5, 0] rfl)
  rw [eG] at j61
  unfold wpPo_joinCheapestPair at hw
  have hv := hw K11 K26
  have hv := hv (by
    intro v1 v2 v3 v5 f_size f_totals f_many f_means hv
    rw [eK11]
    intro H locs ls hP hD hS hl
    rw [eG]
    unfold vcPo_joinCheapestPair_11 at hv
    refine lv_iload hx hb dPo_joinCheapestPair_11 (lv_at hl 4 rfl) ?_
    refine lv_aload_n hx hb dPo_joinCheapestPair_13 rfl (lv_at hl 0 rfl) ?_
    refine va_get (D := (dC, dI)) (ci := 5) (v := .int f_size) (C := RPo) (T := TPo) (N := 4) hx hb hB hiPo hown hK hP 0 rfl rfl 3 (by decide) hL27 (fun _ h9 => h9) rfl dPo_joinCheapestPair_14 ?_
    refine lv_icmp_ge (tgt := 73) hx hb dPo_joinCheapestPair_17 (by decide) (fun c_1 => ?_) (fun c_1 => ?_)
    · have hv := hv.1 c_1
      refine lv_aload_n hx hb dPo_joinCheapestPair_73 rfl (lv_at hl 0 rfl) ?_
      refine lv_iload_n hx hb dPo_joinCheapestPair_74 rfl (lv_at hl 1 rfl) ?_
      refine lv_iload_n hx hb dPo_joinCheapestPair_75 rfl (lv_at hl 2 rfl) ?_
      have hFc := va_free (wc := (wdPo_join q_this q_totals q_many q_means c_totals c_many c_means n_totals n_many n_means f_size f_totals f_many f_means)) hD hS hA [0, 1, 2, 3] rfl
      refine gx_v (wr := []) (va_runV (As := [.int v1, .int v2]) (rest := []) ⟨hx, hb, hml, hown, hB⟩ (metPo_join l dC dI q_this q_totals q_many q_means c_totals c_many c_means n_totals n_many n_means H.size f_size f_totals f_many f_means v1 v2 hv) (cwV 2 hB (gx_gV bw459 bw460 bw15 bw48 bw461) rfl rfl rfl (by decide +kernel) ⟨(Nat.le_of_ble_eq_true rfl), (Nat.le_of_ble_eq_true rfl)⟩) (gx_preV (ci := 5) (hP.sub (ws' := (wdPo_join q_this q_totals q_many q_means c_totals c_many c_means n_totals n_many n_means f_size f_totals f_many f_means)) [0, 1, 2, 3] rfl) (hK.sub (tys' := [(c_totals, .int), (c_many, .int), (c_means, .int)]) [0, 1, 2] rfl) (hD.sub (ws' := (wdPo_join q_this q_totals q_many q_means c_totals c_many c_means n_totals n_many n_means f_size f_totals f_many f_means)) [0, 1, 2, 3] (by decide) rfl) hZ hS hFc rfl rfl) rfl rfl hl.1 rfl (lv_room (Nat.le_of_ble_eq_true rfl)) dPo_joinCheapestPair_76 ⟨(Nat.le_of_ble_eq_true rfl), (Nat.le_of_ble_eq_true rfl)⟩) hP hD hS hFc [0, 1, 2, 3] [] rfl rfl (by decide) (by decide) (fun u_6 H locs hv hP hD hS => ?_)
      obtain ⟨f_size_2, f_totals_3, f_many_4, f_means_5⟩ := u_6
      have hP : va_P (dC, dI) vwCl (wdPo_joinCheapestPair q_this q_totals q_many q_means c_totals c_many c_means n_totals n_many n_means f_size_2 f_totals_3 f_many_4 f_means_5) H := hP.sub [0, 1, 2, 3] rfl
      have hD : va_D A (wdPo_joinCheapestPair q_this q_totals q_many q_means c_totals c_many c_means n_totals n_many n_means f_size_2 f_totals_3 f_many_4 f_means_5) := hD.sub [0, 1, 2, 3] (by decide) rfl
      exact W.vret hx hb hr (fun t ht hW => ⟨⟨(f_size_2, f_totals_3, f_many_4, f_means_5), rfl, hv, by rw [ht]; exact hP, hD⟩, hS.F ht⟩) hS.2.2 dPo_joinCheapestPair_79
    · have hv := hv.2 c_1
      refine lv_iload hx hb dPo_joinCheapestPair_20 (lv_at hl 4 rfl) ?_
      refine lv_iconst (v := 1) hx hb dPo_joinCheapestPair_22 (by decide) ?_
      refine lv_iadd hx hb dPo_joinCheapestPair_23 ?_
      refine lv_topi (fun v6_7 ev6_7 => ?_)
      have hv := hv v6_7 ev6_7
      refine lv_istore (lv' := [(6, .int v6_7), (0, .ref q_this), (1, .int v1), (2, .int v2), (3, .long v3), (5, .int v5)]) hx hb dPo_joinCheapestPair_24 hl (by decide) rfl (fun ls hl => ?_)
      rw [eK26, eG] at hv
      exact hv _ _ _ hP hD hS (lv_sub hl [1, 2, 3, 4, 5, 0] rfl))
  have hv := hv (by
    intro v1 v2 v3 v5 v6 f_size f_totals f_many f_means hv
    rw [eK26]
    intro H locs ls hP hD hS hl
    rw [eG]
    unfold vcPo_joinCheapestPair_26 at hv
    refine lv_iload hx hb dPo_joinCheapestPair_26 (lv_at hl 5 rfl) ?_
    refine lv_aload_n hx hb dPo_joinCheapestPair_28 rfl (lv_at hl 0 rfl) ?_
    refine va_get (D := (dC, dI)) (ci := 5) (v := .int f_size) (C := RPo) (T := TPo) (N := 4) hx hb hB hiPo hown hK hP 0 rfl rfl 3 (by decide) hL27 (fun _ h9 => h9) rfl dPo_joinCheapestPair_29 ?_
    refine lv_icmp_ge (tgt := 67) hx hb dPo_joinCheapestPair_32 (by decide) (fun c_8 => ?_) (fun c_8 => ?_)
    · have hv := hv.1 c_8
      refine lv_iinc (v := v5 + 1) (lv' := [(5, .int (v5 + 1)), (0, .ref q_this), (1, .int v1), (2, .int v2), (3, .long v3), (6, .int v6)]) hx hb dPo_joinCheapestPair_67 hl (k := 4) rfl rfl (by decide) rfl (fun ls hl => ?_)
      refine lv_goto (tgt := 11) hx hb dPo_joinCheapestPair_70 (by decide) ?_
      rw [eK11, eG] at hv
      exact hv _ _ _ hP hD hS (lv_sub hl [1, 2, 3, 4, 0] rfl)
    · have hv := hv.2 c_8
      refine lv_aload_n hx hb dPo_joinCheapestPair_35 rfl (lv_at hl 0 rfl) ?_
      refine lv_iload hx hb dPo_joinCheapestPair_36 (lv_at hl 4 rfl) ?_
      refine lv_iload hx hb dPo_joinCheapestPair_38 (lv_at hl 5 rfl) ?_
      refine gx_rl (va_runV (As := [.int v5, .int v6]) (rest := []) ⟨hx, hb, hml, hown, hB⟩ (metPo_costOfJoining l dC dI q_this q_many q_means q_totals c_many c_means n_many n_means H.size f_size f_many f_means v5 v6 hv) (cwV 2 hB (gx_gV bw451 bw452 bw14 bw48 bw453) rfl rfl rfl (by decide +kernel) ⟨(Nat.le_of_ble_eq_true rfl), (Nat.le_of_ble_eq_true rfl)⟩) (gx_rpreV (ci := 5) (hP.sub (ws' := (wdPo_costOfJoining q_this q_many q_means q_totals c_many c_means n_many n_means f_size f_many f_means)) [0, 2, 3] rfl) (hK.sub (tys' := [(c_many, .int), (c_means, .int)]) [1, 2] rfl) hZ hS hA rfl rfl) rfl rfl hl.1 rfl (lv_room (Nat.le_of_ble_eq_true rfl)) dPo_joinCheapestPair_40 ⟨(Nat.le_of_ble_eq_true rfl), (Nat.le_of_ble_eq_true rfl)⟩) hP hS hA (fun r_9 H locs hv hP hS => ?_)
      refine lv_lstore (lv' := [(7, .long r_9), (0, .ref q_this), (1, .int v1), (2, .int v2), (3, .long v3), (5, .int v5), (6, .int v6)]) hx hb dPo_joinCheapestPair_43 hl (by decide) rfl (fun ls hl => ?_)
      refine lv_lload hx hb dPo_joinCheapestPair_45 (lv_at hl 0 rfl) ?_
      refine lv_lload_n hx hb dPo_joinCheapestPair_47 rfl (lv_at hl 4 rfl) ?_
      refine W.lcmp hx hb dPo_joinCheapestPair_48 ?_
      refine lv_if_ge (tgt := 61) hx hb dPo_joinCheapestPair_49 (by decide) (fun c_11 => ?_) (fun c_11 => ?_)
      · have hv := hv.1 c_11
        exact j61 v1 v2 v3 v5 v6 f_size f_totals f_many f_means hv _ _ _ hP hD hS (lv_sub hl [1, 2, 3, 4, 5, 6] rfl)
      · have hv := hv.2 c_11
        refine lv_lload hx hb dPo_joinCheapestPair_52 (lv_at hl 0 rfl) ?_
        refine lv_lstore_n (lv' := [(3, .long r_9), (7, .long r_9), (0, .ref q_this), (1, .int v1), (2, .int v2), (5, .int v5), (6, .int v6)]) hx hb dPo_joinCheapestPair_54 rfl hl (by decide) rfl (fun ls hl => ?_)
        refine lv_iload hx hb dPo_joinCheapestPair_55 (lv_at hl 5 rfl) ?_
        refine lv_istore_n (lv' := [(1, .int v5), (3, .long r_9), (7, .long r_9), (0, .ref q_this), (2, .int v2), (5, .int v5), (6, .int v6)]) hx hb dPo_joinCheapestPair_57 rfl hl (by decide) rfl (fun ls hl => ?_)
        refine lv_iload hx hb dPo_joinCheapestPair_58 (lv_at hl 6 rfl) ?_
        refine lv_istore_n (lv' := [(2, .int v6), (1, .int v5), (3, .long r_9), (7, .long r_9), (0, .ref q_this), (5, .int v5), (6, .int v6)]) hx hb dPo_joinCheapestPair_60 rfl hl (by decide) rfl (fun ls hl => ?_)
        exact j61 v5 v6 r_9 v5 v6 f_size f_totals f_many f_means hv _ _ _ hP hD hS (lv_sub hl [4, 1, 0, 2, 5, 6] rfl))
  rw [eG]
  refine lv_iconst (v := 0) hx hb dPo_joinCheapestPair_0 (by decide) ?_
  refine lv_istore_n (lv' := [(1, .int 0), (0, .ref q_this)]) hx hb dPo_joinCheapestPair_1 rfl hl (by decide) rfl (fun ls hl => ?_)
  refine lv_iconst (v := 1) hx hb dPo_joinCheapestPair_2 (by decide) ?_
  refine lv_istore_n (lv' := [(2, .int 1), (1, .int 0), (0, .ref q_this)]) hx hb dPo_joinCheapestPair_3 rfl hl (by decide) rfl (fun ls hl => ?_)
  refine lv_ldc2 (v := 9223372036854775807) hx hb hown (hB _ bw450) dPo_joinCheapestPair_4 ?_
  refine lv_lstore_n (lv' := [(3, .long 9223372036854775807), (2, .int 1), (1, .int 0), (0, .ref q_this)]) hx hb dPo_joinCheapestPair_7 rfl hl (by decide) rfl (fun ls hl => ?_)
  refine lv_iconst (v := 0) hx hb dPo_joinCheapestPair_8 (by decide) ?_
  refine lv_istore (lv' := [(5, .int 0), (3, .long 9223372036854775807), (2, .int 1), (1, .int 0), (0, .ref q_this)]) hx hb dPo_joinCheapestPair_9 hl (by decide) rfl (fun ls hl => ?_)
  rw [eK11, eG] at hv
  exact hv _ _ _ hP hD hS (lv_sub hl [4, 3, 2, 1, 0] rfl)
abbrev wdPo_joinDownTo (q_this q_totals q_many q_means : Nat) (c_totals c_many c_means : ClassId) (n_totals n_many n_means : Nat) (f_size : Int32) (f_totals : Nat → Int32) (f_many : Nat → Int32) (f_means : Nat → Int32) : va_W := [(q_this, .inr (5, [.ref q_totals, .ref q_many, .ref q_means, .int f_size])), (q_totals, .inl (c_totals, n_totals, .inl f_totals)), (q_many, .inl (c_many, n_many, .inl f_many)), (q_means, .inl (c_means, n_means, .inl f_means))]
set_option maxHeartbeats 4000000 in
set_option maxRecDepth 100000 in
theorem metPo_joinDownTo (l : Launch) (dC : Nat → ClassId) (dI : Nat → Nat → Nat) (q_this q_totals q_many q_means : Nat) (c_totals c_many c_means : ClassId) (n_totals n_many n_means : Nat) (sz : Nat) (f_size : Int32) (f_totals : Nat → Int32) (f_many : Nat → Int32) (f_means : Nat → Int32) (x1 : Int32) {post : Int32 → (Nat → Int32) → (Nat → Int32) → (Nat → Int32) → Prop} (hw : wpPo_joinDownTo n_totals n_many n_means f_size f_totals f_many f_means x1 post) : Met l yPo_joinDownTo (.code yPo_joinDownTo bPo_joinDownTo 3 none :: BIG) ({ frames := 4, cells := 0, slots := 0, locals := 95 }) (va_Pc [.ref q_this, .int x1] (gx_pre (dC, dI) vwCl (wdPo_joinDownTo q_this q_totals q_many q_means c_totals c_many c_means n_totals n_many n_means f_size f_totals f_many f_means) [(c_totals, .int), (c_many, .int), (c_means, .int)] sz)) (va_Qv (fun (u : Int32 × (Nat → Int32) × (Nat → Int32) × (Nat → Int32)) => post u.1 u.2.1 u.2.2.1 u.2.2.2) (gx_B (dC, dI) vwCl (va_A (wdPo_joinDownTo q_this q_totals q_many q_means c_totals c_many c_means n_totals n_many n_means f_size f_totals f_many f_means) sz) (fun (u : Int32 × (Nat → Int32) × (Nat → Int32) × (Nat → Int32)) => (wdPo_joinDownTo q_this q_totals q_many q_means c_totals c_many c_means n_totals n_many n_means u.1 u.2.1 u.2.2.1 u.2.2.2))) (va_A (wdPo_joinDownTo q_this q_totals q_many q_means c_totals c_many c_means n_totals n_many n_means f_size f_totals f_many f_means) sz)) 0 0 (va_A (wdPo_joinDownTo q_this q_totals q_many q_means c_totals c_many c_means n_totals n_many n_means f_size f_totals f_many f_means) sz) := by
  refine Met.ofW (cc := bPo_joinDownTo) (maxL := 3) (ret := none) (by decide) rfl ?_
  intro p e s m args below meth c s₁ B hml hv
  obtain ⟨rfl, hsz, hP, hK, hD0, hZ⟩ := hv
  have hx := B.exec
  have hb := B.bytes
  have hr := B.returns
  have hts := atoms_spec (ws := (.code yPo_joinDownTo bPo_joinDownTo 3 none :: BIG)) B.pre
  have hB : ∀ w ∈ BIG, w.before _ s = true := fun w h => hts w (List.mem_cons_of_mem _ h)
  have hown : s.vm.findClass RPo = some m.cls := findClass_of_methodNamed B.named
  have hlocks := B.notSynchronized
  subst hsz
  have hD := hD0.self (sz := s.heap.size)
  generalize hAe : va_A (wdPo_joinDownTo q_this q_totals q_many q_means c_totals c_many c_means n_totals n_many n_means f_size f_totals f_many f_means) s.heap.size = A at hD hZ ⊢
  have hA : ∀ q : Nat, s.heap.size ≤ q → A q := fun q h => by rw [← hAe]; exact Or.inr h
  have hS : va_S A s.heap s.heap [] := va_S.rf
  have hl := lv_entry ([.ref q_this, .int x1]) (n := 3) (Nat.le_of_ble_eq_true rfl)
  rw [lg_entry_eq]
  generalize (lg_sl ([.ref q_this, .int x1]) ++ List.replicate (3 - (lg_sl ([.ref q_this, .int x1])).length) Slot.unset).toArray = ls at hl ⊢
  have hl : lv_has ls 3 [(0, .ref q_this), (1, .int x1)] := hl
  have hL18 := (hB _ bw139)
  have hL27 := (hB _ bw140)
  refine gx_abs (fun G eG => ?_)
  obtain ⟨K2, eK2⟩ : ∃ K : Int32 → Int32 → (Nat → Int32) → (Nat → Int32) → (Nat → Int32) → Prop, K = fun v2 f_size f_totals f_many f_means => ∀ (H : Heap) (locs : List Loc) (ls : Array Slot), va_P (dC, dI) vwCl (wdPo_joinDownTo q_this q_totals q_many q_means c_totals c_many c_means n_totals n_many n_means f_size f_totals f_many f_means) H → va_D A (wdPo_joinDownTo q_this q_totals q_many q_means c_totals c_many c_means n_totals n_many n_means f_size f_totals f_many f_means) → va_S A s.heap H locs → lv_has ls 3 [(0, .ref q_this), (1, .int x1), (2, .int v2)] → G H locs 0 0 (F0 m 2 ls []) := ⟨_, rfl⟩
  obtain ⟨K32, eK32⟩ : ∃ K : Int32 → Int32 → (Nat → Int32) → (Nat → Int32) → (Nat → Int32) → Prop, K = fun v2 f_size f_totals f_many f_means => ∀ (H : Heap) (locs : List Loc) (ls : Array Slot), va_P (dC, dI) vwCl (wdPo_joinDownTo q_this q_totals q_many q_means c_totals c_many c_means n_totals n_many n_means f_size f_totals f_many f_means) H → va_D A (wdPo_joinDownTo q_this q_totals q_many q_means c_totals c_many c_means n_totals n_many n_means f_size f_totals f_many f_means) → va_S A s.heap H locs → lv_has ls 3 [(0, .ref q_this), (1, .int x1), (2, .int v2)] → G H locs 0 0 (F0 m 32 ls []) := ⟨_, rfl⟩
  have j52 : ∀ (f_size : Int32) (f_totals : Nat → Int32) (f_many : Nat → Int32) (f_means : Nat → Int32), vcPo_joinDownTo_52 n_totals n_many n_means x1 K2 K32 post f_size f_totals f_many f_means → ∀ (H : Heap) (locs : List Loc) (ls : Array Slot), va_P (dC, dI) vwCl (wdPo_joinDownTo q_this q_totals q_many q_means c_totals c_many c_means n_totals n_many n_means f_size f_totals f_many f_means) H → va_D A (wdPo_joinDownTo q_this q_totals q_many q_means c_totals c_many c_means n_totals n_many n_means f_size f_totals f_many f_means) → va_S A s.heap H locs → lv_has ls 3 [] → G H locs 0 0 (F0 m 52 ls []) := by
    intro f_size f_totals f_many f_means hv H locs ls hP hD hS hl
    rw [eG]
    unfold vcPo_joinDownTo_52 at hv
    exact W.vret hx hb hr (fun t ht hW => ⟨⟨(f_size, f_totals, f_many, f_means), rfl, hv, by rw [ht]; exact hP, hD⟩, hS.F ht⟩) hS.2.2 dPo_joinDownTo_52
  rw [eG] at j52
  unfold wpPo_joinDownTo at hw
  have hv := hw K2 K32
  have hv := hv (by
    intro v2 f_size f_totals f_many f_means hv
    rw [eK2]
    intro H locs ls hP hD hS hl
    rw [eG]
    unfold vcPo_joinDownTo_2 at hv
    refine lv_iload_n hx hb dPo_joinDownTo_2 rfl (lv_at hl 2 rfl) ?_
    refine lv_aload_n hx hb dPo_joinDownTo_3 rfl (lv_at hl 0 rfl) ?_
    refine va_get (D := (dC, dI)) (ci := 5) (v := .int f_size) (C := RPo) (T := TPo) (N := 4) hx hb hB hiPo hown hK hP 0 rfl rfl 3 (by decide) hL27 (fun _ h9 => h9) rfl dPo_joinDownTo_4 ?_
    refine lv_icmp_ge (tgt := 27) hx hb dPo_joinDownTo_7 (by decide) (fun c_1 => ?_) (fun c_1 => ?_)
    · have hv := hv.1 c_1
      refine lv_aload_n hx hb dPo_joinDownTo_27 rfl (lv_at hl 0 rfl) ?_
      refine va_get (D := (dC, dI)) (ci := 5) (v := .int f_size) (C := RPo) (T := TPo) (N := 4) hx hb hB hiPo hown hK hP 0 rfl rfl 3 (by decide) hL27 (fun _ h9 => h9) rfl dPo_joinDownTo_28 ?_
      refine lv_istore_n (lv' := [(2, .int f_size), (0, .ref q_this), (1, .int x1)]) hx hb dPo_joinDownTo_31 rfl hl (by decide) rfl (fun ls hl => ?_)
      rw [eK32, eG] at hv
      exact hv _ _ _ hP hD hS (lv_sub hl [1, 2, 0] rfl)
    · have hv := hv.2 c_1
      refine lv_aload_n hx hb dPo_joinDownTo_10 rfl (lv_at hl 0 rfl) ?_
      refine va_get (D := (dC, dI)) (ci := 5) (v := .ref q_means) (C := RPo) (T := TPo) (N := 4) hx hb hB hiPo hown hK hP 0 rfl rfl 2 (by decide) hL18 (fun _ h9 => h9) rfl dPo_joinDownTo_11 ?_
      refine lv_iload_n hx hb dPo_joinDownTo_14 rfl (lv_at hl 2 rfl) ?_
      refine lv_aload_n hx hb dPo_joinDownTo_15 rfl (lv_at hl 0 rfl) ?_
      refine lv_iload_n hx hb dPo_joinDownTo_16 rfl (lv_at hl 2 rfl) ?_
      refine gx_ri (va_runV (As := [.int v2]) (rest := [.int v2, .ref q_means]) ⟨hx, hb, hml, hown, hB⟩ (metPo_meanOf l dC dI q_this q_totals q_many q_means c_totals c_many n_totals n_many H.size f_size f_totals f_many v2 hv) (cwV 1 hB (gx_gV bw440 bw441 bw442 bw48 bw443) rfl rfl rfl (by decide +kernel) ⟨(Nat.le_of_ble_eq_true rfl), (Nat.le_of_ble_eq_true rfl)⟩) (gx_rpreV (ci := 5) (hP.sub (ws' := (wdPo_meanOf q_this q_totals q_many q_means c_totals c_many n_totals n_many f_size f_totals f_many)) [0, 1, 2] rfl) (hK.sub (tys' := [(c_totals, .int), (c_many, .int)]) [0, 1] rfl) hZ hS hA rfl rfl) rfl rfl hl.1 rfl (lv_room (Nat.le_of_ble_eq_true rfl)) dPo_joinDownTo_17 ⟨(Nat.le_of_ble_eq_true rfl), (Nat.le_of_ble_eq_true rfl)⟩) hP hS hA (fun r_2 H locs hv hP hS => ?_)
      obtain ⟨h_4, hv⟩ := hv
      refine va_iast hx hb hK hP hD hS 3 2 rfl rfl h_4 dPo_joinDownTo_20 (fun H locs hP hD hS => ?_)
      have hP : va_P (dC, dI) vwCl (wdPo_joinDownTo q_this q_totals q_many q_means c_totals c_many c_means n_totals n_many n_means f_size f_totals f_many (upd f_means v2.toNatClampNeg r_2)) H := hP
      have hD : va_D A (wdPo_joinDownTo q_this q_totals q_many q_means c_totals c_many c_means n_totals n_many n_means f_size f_totals f_many (upd f_means v2.toNatClampNeg r_2)) := hD
      refine lv_iinc (v := v2 + 1) (lv' := [(2, .int (v2 + 1)), (0, .ref q_this), (1, .int x1)]) hx hb dPo_joinDownTo_21 hl (k := 2) rfl rfl (by decide) rfl (fun ls hl => ?_)
      refine lv_goto (tgt := 2) hx hb dPo_joinDownTo_24 (by decide) ?_
      rw [eK2, eG] at hv
      exact hv _ _ _ hP hD hS (lv_sub hl [1, 2, 0] rfl))
  have hv := hv (by
    intro v2 f_size f_totals f_many f_means hv
    rw [eK32]
    intro H locs ls hP hD hS hl
    rw [eG]
    unfold vcPo_joinDownTo_32 at hv
    refine lv_iload_n hx hb dPo_joinDownTo_32 rfl (lv_at hl 2 rfl) ?_
    refine lv_iload_n hx hb dPo_joinDownTo_33 rfl (lv_at hl 1 rfl) ?_
    refine lv_icmp_le (tgt := 52) hx hb dPo_joinDownTo_34 (by decide) (fun c_6 => ?_) (fun c_6 => ?_)
    · have hv := hv.1 c_6
      exact j52 f_size f_totals f_many f_means hv _ _ _ hP hD hS (lv_sub hl [] rfl)
    · have hv := hv.2 c_6
      refine lv_iload_n hx hb dPo_joinDownTo_37 rfl (lv_at hl 2 rfl) ?_
      refine lv_iconst (v := 1) hx hb dPo_joinDownTo_38 (by decide) ?_
      refine lv_icmp_le (tgt := 52) hx hb dPo_joinDownTo_39 (by decide) (fun c_7 => ?_) (fun c_7 => ?_)
      · have hv := hv.1 c_7
        exact j52 f_size f_totals f_many f_means hv _ _ _ hP hD hS (lv_sub hl [] rfl)
      · have hv := hv.2 c_7
        refine lv_aload_n hx hb dPo_joinDownTo_42 rfl (lv_at hl 0 rfl) ?_
        have hFc := va_free (wc := (wdPo_joinCheapestPair q_this q_totals q_many q_means c_totals c_many c_means n_totals n_many n_means f_size f_totals f_many f_means)) hD hS hA [0, 1, 2, 3] rfl
        refine gx_v (wr := []) (va_runV (As := []) (rest := []) ⟨hx, hb, hml, hown, hB⟩ (metPo_joinCheapestPair l dC dI q_this q_totals q_many q_means c_totals c_many c_means n_totals n_many n_means H.size f_size f_totals f_many f_means hv) (cwV 0 hB (gx_gV bw447 bw448 bw13 bw48 bw449) rfl rfl rfl (by decide +kernel) ⟨(Nat.le_of_ble_eq_true rfl), (Nat.le_of_ble_eq_true rfl)⟩) (gx_preV (ci := 5) (hP.sub (ws' := (wdPo_joinCheapestPair q_this q_totals q_many q_means c_totals c_many c_means n_totals n_many n_means f_size f_totals f_many f_means)) [0, 1, 2, 3] rfl) (hK.sub (tys' := [(c_totals, .int), (c_many, .int), (c_means, .int)]) [0, 1, 2] rfl) (hD.sub (ws' := (wdPo_joinCheapestPair q_this q_totals q_many q_means c_totals c_many c_means n_totals n_many n_means f_size f_totals f_many f_means)) [0, 1, 2, 3] (by decide) rfl) hZ hS hFc rfl rfl) rfl rfl hl.1 rfl (lv_room (Nat.le_of_ble_eq_true rfl)) dPo_joinDownTo_43 ⟨(Nat.le_of_ble_eq_true rfl), (Nat.le_of_ble_eq_true rfl)⟩) hP hD hS hFc [0, 1, 2, 3] [] rfl rfl (by decide) (by decide) (fun u_12 H locs hv hP hD hS => ?_)
        obtain ⟨f_size_8, f_totals_9, f_many_10, f_means_11⟩ := u_12
        have hP : va_P (dC, dI) vwCl (wdPo_joinDownTo q_this q_totals q_many q_means c_totals c_many c_means n_totals n_many n_means f_size_8 f_totals_9 f_many_10 f_means_11) H := hP.sub [0, 1, 2, 3] rfl
        have hD : va_D A (wdPo_joinDownTo q_this q_totals q_many q_means c_totals c_many c_means n_totals n_many n_means f_size_8 f_totals_9 f_many_10 f_means_11) := hD.sub [0, 1, 2, 3] (by decide) rfl
        refine lv_iinc (v := v2 + (-1)) (lv' := [(2, .int (v2 + (-1))), (0, .ref q_this), (1, .int x1)]) hx hb dPo_joinDownTo_46 hl (k := 2) rfl rfl (by decide) rfl (fun ls hl => ?_)
        refine lv_goto (tgt := 32) hx hb dPo_joinDownTo_49 (by decide) ?_
        rw [eK32, eG] at hv
        exact hv _ _ _ hP hD hS (lv_sub hl [1, 2, 0] rfl))
  rw [eG]
  refine lv_iconst (v := 0) hx hb dPo_joinDownTo_0 (by decide) ?_
  refine lv_istore_n (lv' := [(2, .int 0), (0, .ref q_this), (1, .int x1)]) hx hb dPo_joinDownTo_1 rfl hl (by decide) rfl (fun ls hl => ?_)
  rw [eK2, eG] at hv
  exact hv _ _ _ hP hD hS (lv_sub hl [1, 2, 0] rfl)
abbrev wdSh_enlist (q_this q_tint q_many r_rank r_keys : Nat) (c_tint c_many : ClassId) (n_tint n_many : Nat) (f_size : Int32) (f_stale : Int32) (f_tint : Nat → Int32) (f_many : Nat → Int32) : va_W := [(q_this, .inr (6, [.ref q_tint, .ref q_many, .ref r_rank, .ref r_keys, .int f_size, .int f_stale])), (q_tint, .inl (c_tint, n_tint, .inl f_tint)), (q_many, .inl (c_many, n_many, .inl f_many))]
set_option maxHeartbeats 4000000 in
set_option maxRecDepth 100000 in
theorem metSh_enlist (l : Launch) (dC : Nat → ClassId) (dI : Nat → Nat → Nat) (q_this q_tint q_many r_rank r_keys : Nat) (c_tint c_many : ClassId) (n_tint n_many : Nat) (sz : Nat) (f_size : Int32) (f_stale : Int32) (f_tint : Nat → Int32) (f_many : Nat → Int32) (x1 : Int32) {post : Int32 → (Nat → Int32) → (Nat → Int32) → Prop} (hw : wpSh_enlist n_tint n_many f_size f_stale f_tint f_many x1 post) : Met l ySh_enlist (.code ySh_enlist bSh_enlist 2 none :: BIG) ({ frames := 0, cells := 0, slots := 0, locals := 0 }) (va_Pc [.ref q_this, .int x1] (gx_pre (dC, dI) vwCl (wdSh_enlist q_this q_tint q_many r_rank r_keys c_tint c_many n_tint n_many f_size f_stale f_tint f_many) [(c_tint, .int), (c_many, .int)] sz)) (va_Qv (fun (u : Int32 × (Nat → Int32) × (Nat → Int32)) => post u.1 u.2.1 u.2.2) (gx_B (dC, dI) vwCl (va_A (wdSh_enlist q_this q_tint q_many r_rank r_keys c_tint c_many n_tint n_many f_size f_stale f_tint f_many) sz) (fun (u : Int32 × (Nat → Int32) × (Nat → Int32)) => (wdSh_enlist q_this q_tint q_many r_rank r_keys c_tint c_many n_tint n_many u.1 f_stale u.2.1 u.2.2))) (va_A (wdSh_enlist q_this q_tint q_many r_rank r_keys c_tint c_many n_tint n_many f_size f_stale f_tint f_many) sz)) 0 0 (va_A (wdSh_enlist q_this q_tint q_many r_rank r_keys c_tint c_many n_tint n_many f_size f_stale f_tint f_many) sz) := by
  refine Met.ofW (cc := bSh_enlist) (maxL := 2) (ret := none) (by decide) rfl ?_
  intro p e s m args below meth c s₁ B hml hv
  obtain ⟨rfl, hsz, hP, hK, hD0, hZ⟩ := hv
  have hx := B.exec
  have hb := B.bytes
  have hr := B.returns
  have hts := atoms_spec (ws := (.code ySh_enlist bSh_enlist 2 none :: BIG)) B.pre
  have hB : ∀ w ∈ BIG, w.before _ s = true := fun w h => hts w (List.mem_cons_of_mem _ h)
  have hown : s.vm.findClass RSh = some m.cls := findClass_of_methodNamed B.named
  have hlocks := B.notSynchronized
  subst hsz
  have hD := hD0.self (sz := s.heap.size)
  generalize hAe : va_A (wdSh_enlist q_this q_tint q_many r_rank r_keys c_tint c_many n_tint n_many f_size f_stale f_tint f_many) s.heap.size = A at hD hZ ⊢
  have hA : ∀ q : Nat, s.heap.size ≤ q → A q := fun q h => by rw [← hAe]; exact Or.inr h
  have hS : va_S A s.heap s.heap [] := va_S.rf
  have hl := lv_entry ([.ref q_this, .int x1]) (n := 2) (Nat.le_of_ble_eq_true rfl)
  rw [lg_entry_eq]
  generalize (lg_sl ([.ref q_this, .int x1]) ++ List.replicate (2 - (lg_sl ([.ref q_this, .int x1])).length) Slot.unset).toArray = ls at hl ⊢
  have hl : lv_has ls 2 [(0, .ref q_this), (1, .int x1)] := hl
  have hL9 := (hB _ bw85)
  have hL15 := (hB _ bw89)
  have hL25 := (hB _ bw97)
  refine gx_abs (fun G eG => ?_)
  have j52 : ∀ (f_size : Int32) (f_tint : Nat → Int32) (f_many : Nat → Int32), vcSh_enlist_52 n_tint n_many f_stale x1 post f_size f_tint f_many → ∀ (H : Heap) (locs : List Loc) (ls : Array Slot), va_P (dC, dI) vwCl (wdSh_enlist q_this q_tint q_many r_rank r_keys c_tint c_many n_tint n_many f_size f_stale f_tint f_many) H → va_D A (wdSh_enlist q_this q_tint q_many r_rank r_keys c_tint c_many n_tint n_many f_size f_stale f_tint f_many) → va_S A s.heap H locs → lv_has ls 2 [(0, .ref q_this)] → G H locs 0 0 (F0 m 52 ls []) := by
    intro f_size f_tint f_many hv H locs ls hP hD hS hl
    rw [eG]
    unfold vcSh_enlist_52 at hv
    refine lv_aload_n hx hb dSh_enlist_52 rfl (lv_at hl 0 rfl) ?_
    refine va_get (D := (dC, dI)) (ci := 6) (v := .ref q_many) (C := RSh) (T := TSh) (N := 6) hx hb hB hiSh hown hK hP 0 rfl rfl 1 (by decide) hL15 (fun _ h9 => h9) rfl dSh_enlist_53 ?_
    refine lv_aload_n hx hb dSh_enlist_56 rfl (lv_at hl 0 rfl) ?_
    refine va_get (D := (dC, dI)) (ci := 6) (v := .int f_size) (C := RSh) (T := TSh) (N := 6) hx hb hB hiSh hown hK hP 0 rfl rfl 4 (by decide) hL25 (fun _ h9 => h9) rfl dSh_enlist_57 ?_
    refine lv_iconst (v := 1) hx hb dSh_enlist_60 (by decide) ?_
    refine lv_isub hx hb dSh_enlist_61 ?_
    refine lv_dup2_11 hx hb dSh_enlist_62 rfl rfl ?_
    obtain ⟨h_1, hv⟩ := hv
    refine va_iald hx hb hK hP 2 1 rfl rfl h_1 dSh_enlist_63 ?_
    refine lv_iconst (v := 1) hx hb dSh_enlist_64 (by decide) ?_
    refine lv_iadd hx hb dSh_enlist_65 ?_
    obtain ⟨h_2, hv⟩ := hv
    refine va_iast hx hb hK hP hD hS 2 1 rfl rfl h_2 dSh_enlist_66 (fun H locs hP hD hS => ?_)
    have hP : va_P (dC, dI) vwCl (wdSh_enlist q_this q_tint q_many r_rank r_keys c_tint c_many n_tint n_many f_size f_stale f_tint (upd f_many (f_size - 1).toNatClampNeg ((f_many (f_size - 1).toNatClampNeg) + 1))) H := hP
    have hD : va_D A (wdSh_enlist q_this q_tint q_many r_rank r_keys c_tint c_many n_tint n_many f_size f_stale f_tint (upd f_many (f_size - 1).toNatClampNeg ((f_many (f_size - 1).toNatClampNeg) + 1))) := hD
    exact W.vret hx hb hr (fun t ht hW => ⟨⟨(f_size, f_tint, upd f_many (f_size - 1).toNatClampNeg ((f_many (f_size - 1).toNatClampNeg) + 1)), rfl, hv, by rw [ht]; exact hP, hD⟩, hS.F ht⟩) hS.2.2 dSh_enlist_67
  rw [eG] at j52
  have j22 : vcSh_enlist_22 n_tint n_many f_stale x1 post f_size f_tint f_many → ∀ (H : Heap) (locs : List Loc) (ls : Array Slot), va_P (dC, dI) vwCl (wdSh_enlist q_this q_tint q_many r_rank r_keys c_tint c_many n_tint n_many f_size f_stale f_tint f_many) H → va_D A (wdSh_enlist q_this q_tint q_many r_rank r_keys c_tint c_many n_tint n_many f_size f_stale f_tint f_many) → va_S A s.heap H locs → lv_has ls 2 [(0, .ref q_this), (1, .int x1)] → G H locs 0 0 (F0 m 22 ls []) := by
    intro  hv H locs ls hP hD hS hl
    rw [eG]
    unfold vcSh_enlist_22 at hv
    refine lv_aload_n hx hb dSh_enlist_22 rfl (lv_at hl 0 rfl) ?_
    refine va_get (D := (dC, dI)) (ci := 6) (v := .ref q_tint) (C := RSh) (T := TSh) (N := 6) hx hb hB hiSh hown hK hP 0 rfl rfl 0 (by decide) hL9 (fun _ h9 => h9) rfl dSh_enlist_23 ?_
    refine lv_aload_n hx hb dSh_enlist_26 rfl (lv_at hl 0 rfl) ?_
    refine va_get (D := (dC, dI)) (ci := 6) (v := .int f_size) (C := RSh) (T := TSh) (N := 6) hx hb hB hiSh hown hK hP 0 rfl rfl 4 (by decide) hL25 (fun _ h9 => h9) rfl dSh_enlist_27 ?_
    refine lv_iload_n hx hb dSh_enlist_30 rfl (lv_at hl 1 rfl) ?_
    obtain ⟨h_4, hv⟩ := hv
    refine va_iast hx hb hK hP hD hS 1 0 rfl rfl h_4 dSh_enlist_31 (fun H locs hP hD hS => ?_)
    have hP : va_P (dC, dI) vwCl (wdSh_enlist q_this q_tint q_many r_rank r_keys c_tint c_many n_tint n_many f_size f_stale (upd f_tint f_size.toNatClampNeg x1) f_many) H := hP
    have hD : va_D A (wdSh_enlist q_this q_tint q_many r_rank r_keys c_tint c_many n_tint n_many f_size f_stale (upd f_tint f_size.toNatClampNeg x1) f_many) := hD
    refine lv_aload_n hx hb dSh_enlist_32 rfl (lv_at hl 0 rfl) ?_
    refine va_get (D := (dC, dI)) (ci := 6) (v := .ref q_many) (C := RSh) (T := TSh) (N := 6) hx hb hB hiSh hown hK hP 0 rfl rfl 1 (by decide) hL15 (fun _ h9 => h9) rfl dSh_enlist_33 ?_
    refine lv_aload_n hx hb dSh_enlist_36 rfl (lv_at hl 0 rfl) ?_
    refine va_get (D := (dC, dI)) (ci := 6) (v := .int f_size) (C := RSh) (T := TSh) (N := 6) hx hb hB hiSh hown hK hP 0 rfl rfl 4 (by decide) hL25 (fun _ h9 => h9) rfl dSh_enlist_37 ?_
    refine lv_iconst (v := 0) hx hb dSh_enlist_40 (by decide) ?_
    obtain ⟨h_6, hv⟩ := hv
    refine va_iast hx hb hK hP hD hS 2 1 rfl rfl h_6 dSh_enlist_41 (fun H locs hP hD hS => ?_)
    have hP : va_P (dC, dI) vwCl (wdSh_enlist q_this q_tint q_many r_rank r_keys c_tint c_many n_tint n_many f_size f_stale (upd f_tint f_size.toNatClampNeg x1) (upd f_many f_size.toNatClampNeg 0)) H := hP
    have hD : va_D A (wdSh_enlist q_this q_tint q_many r_rank r_keys c_tint c_many n_tint n_many f_size f_stale (upd f_tint f_size.toNatClampNeg x1) (upd f_many f_size.toNatClampNeg 0)) := hD
    refine lv_aload_n hx hb dSh_enlist_42 rfl (lv_at hl 0 rfl) ?_
    refine lv_dup hx hb dSh_enlist_43 rfl ?_
    refine va_get (D := (dC, dI)) (ci := 6) (v := .int f_size) (C := RSh) (T := TSh) (N := 6) hx hb hB hiSh hown hK hP 0 rfl rfl 4 (by decide) hL25 (fun _ h9 => h9) rfl dSh_enlist_44 ?_
    refine lv_iconst (v := 1) hx hb dSh_enlist_47 (by decide) ?_
    refine lv_iadd hx hb dSh_enlist_48 ?_
    refine lv_topi (fun w_8 ew_8 => ?_)
    have hv := hv w_8 ew_8
    refine va_put (D := (dC, dI)) (ci := 6) (v := .int w_8) (ty := .int) (C := RSh) (T := TSh) (N := 6) hx hb hB hiSh tSh tSh_ok nSh hown hK hP hD hS 0 rfl rfl 4 (by decide) hL25 (fun _ h9 => h9) rfl (by decide +kernel) rfl rfl (Nat.le_of_ble_eq_true rfl) dSh_enlist_49 (fun H locs hP hD hS => ?_)
    have hP : va_P (dC, dI) vwCl (wdSh_enlist q_this q_tint q_many r_rank r_keys c_tint c_many n_tint n_many w_8 f_stale (upd f_tint f_size.toNatClampNeg x1) (upd f_many f_size.toNatClampNeg 0)) H := hP
    have hD : va_D A (wdSh_enlist q_this q_tint q_many r_rank r_keys c_tint c_many n_tint n_many w_8 f_stale (upd f_tint f_size.toNatClampNeg x1) (upd f_many f_size.toNatClampNeg 0)) := hD
    exact j52 w_8 (upd f_tint f_size.toNatClampNeg x1) (upd f_many f_size.toNatClampNeg 0) hv _ _ _ hP hD hS (lv_sub hl [0] rfl)
  rw [eG] at j22
  unfold wpSh_enlist at hw
  have hv := hw
  rw [eG]
  refine lv_aload_n hx hb dSh_enlist_0 rfl (lv_at hl 0 rfl) ?_
  refine va_get (D := (dC, dI)) (ci := 6) (v := .int f_size) (C := RSh) (T := TSh) (N := 6) hx hb hB hiSh hown hK hP 0 rfl rfl 4 (by decide) hL25 (fun _ h9 => h9) rfl dSh_enlist_1 ?_
  refine lv_if_eq (tgt := 22) hx hb dSh_enlist_4 (by decide) (fun c_9 => ?_) (fun c_9 => ?_)
  · have hv := hv.1 c_9
    exact j22  hv _ _ _ hP hD hS (lv_sub hl [0, 1] rfl)
  · have hv := hv.2 c_9
    refine lv_aload_n hx hb dSh_enlist_7 rfl (lv_at hl 0 rfl) ?_
    refine va_get (D := (dC, dI)) (ci := 6) (v := .ref q_tint) (C := RSh) (T := TSh) (N := 6) hx hb hB hiSh hown hK hP 0 rfl rfl 0 (by decide) hL9 (fun _ h9 => h9) rfl dSh_enlist_8 ?_
    refine lv_aload_n hx hb dSh_enlist_11 rfl (lv_at hl 0 rfl) ?_
    refine va_get (D := (dC, dI)) (ci := 6) (v := .int f_size) (C := RSh) (T := TSh) (N := 6) hx hb hB hiSh hown hK hP 0 rfl rfl 4 (by decide) hL25 (fun _ h9 => h9) rfl dSh_enlist_12 ?_
    refine lv_iconst (v := 1) hx hb dSh_enlist_15 (by decide) ?_
    refine lv_isub hx hb dSh_enlist_16 ?_
    obtain ⟨h_10, hv⟩ := hv
    refine va_iald hx hb hK hP 1 0 rfl rfl h_10 dSh_enlist_17 ?_
    refine lv_iload_n hx hb dSh_enlist_18 rfl (lv_at hl 1 rfl) ?_
    refine lv_icmp_eq (tgt := 52) hx hb dSh_enlist_19 (by decide) (fun c_11 => ?_) (fun c_11 => ?_)
    · have hv := hv.1 c_11
      exact j52 f_size f_tint f_many hv _ _ _ hP hD hS (lv_sub hl [0] rfl)
    · have hv := hv.2 c_11
      exact j22  hv _ _ _ hP hD hS (lv_sub hl [0, 1] rfl)
