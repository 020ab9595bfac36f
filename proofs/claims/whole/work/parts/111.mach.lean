abbrev wdMd_told (q_this q_samples q_isGiven q_colours q_many r_gives r_group r_row r_channelOf r_spreads r_boxMany r_there r_groupMany r_means r_sums r_palette r_has r_takers r_takenSums r_order r_before r_roundSums r_carried : Nat) (c_samples c_isGiven c_colours c_many : ClassId) (n_samples n_isGiven n_colours n_many : Nat) (f_thrown : Int32) (f_width : Int32) (f_height : Int32) (f_different : Int32) (f_groups : Int32) (f_rowSize : Int32) (f_ready : Int32) (f_size : Int32) (f_rounds : Int32) (f_samples : Nat → Int32) (f_isGiven : Nat → Int32) (f_colours : Nat → Int32) (f_many : Nat → Int32) : va_W := [(q_this, .inr (8, [.int f_thrown, .int f_width, .int f_height, .ref q_samples, .ref q_isGiven, .ref r_gives, .int f_different, .ref q_colours, .ref q_many, .ref r_group, .int f_groups, .ref r_row, .int f_rowSize, .ref r_channelOf, .ref r_spreads, .ref r_boxMany, .ref r_there, .ref r_groupMany, .ref r_means, .ref r_sums, .int f_ready, .int f_size, .ref r_palette, .ref r_has, .ref r_takers, .ref r_takenSums, .ref r_order, .ref r_before, .int f_rounds, .ref r_roundSums, .ref r_carried])), (q_samples, .inl (c_samples, n_samples, .inl f_samples)), (q_isGiven, .inl (c_isGiven, n_isGiven, .inl f_isGiven)), (q_colours, .inl (c_colours, n_colours, .inl f_colours)), (q_many, .inl (c_many, n_many, .inl f_many))]
set_option maxHeartbeats 4000000 in
set_option maxRecDepth 100000 in
theorem metMd_told (l : Launch) (dC : Nat → ClassId) (dI : Nat → Nat → Nat) (q_this q_samples q_isGiven q_colours q_many r_gives r_group r_row r_channelOf r_spreads r_boxMany r_there r_groupMany r_means r_sums r_palette r_has r_takers r_takenSums r_order r_before r_roundSums r_carried : Nat) (c_samples c_isGiven c_colours c_many : ClassId) (n_samples n_isGiven n_colours n_many : Nat) (sz : Nat) (f_thrown : Int32) (f_width : Int32) (f_height : Int32) (f_different : Int32) (f_groups : Int32) (f_rowSize : Int32) (f_ready : Int32) (f_size : Int32) (f_rounds : Int32) (f_samples : Nat → Int32) (f_isGiven : Nat → Int32) (f_colours : Nat → Int32) (f_many : Nat → Int32) (x1 : Int32) {post : Int32 → Int32 → Int32 → (Nat → Int32) → (Nat → Int32) → Prop} (hw : wpMd_told n_samples n_isGiven n_colours n_many f_thrown f_width f_height f_different f_groups f_rowSize f_ready f_size f_rounds f_samples f_isGiven f_colours f_many x1 post) : Met l yMd_told (.code yMd_told bMd_told 2 (some .int) :: BIG) ({ frames := 2, cells := 0, slots := 0, locals := 47 }) (va_Pc [.ref q_this, .int x1] (gx_pre (dC, dI) vwCl (wdMd_told q_this q_samples q_isGiven q_colours q_many r_gives r_group r_row r_channelOf r_spreads r_boxMany r_there r_groupMany r_means r_sums r_palette r_has r_takers r_takenSums r_order r_before r_roundSums r_carried c_samples c_isGiven c_colours c_many n_samples n_isGiven n_colours n_many f_thrown f_width f_height f_different f_groups f_rowSize f_ready f_size f_rounds f_samples f_isGiven f_colours f_many) [(c_samples, .int), (c_isGiven, .boolean), (c_colours, .int), (c_many, .int)] sz)) (va_Qi (fun r (u : Int32 × Int32 × (Nat → Int32) × (Nat → Int32)) => post r u.1 u.2.1 u.2.2.1 u.2.2.2) (gx_B (dC, dI) vwCl (va_A (wdMd_told q_this q_samples q_isGiven q_colours q_many r_gives r_group r_row r_channelOf r_spreads r_boxMany r_there r_groupMany r_means r_sums r_palette r_has r_takers r_takenSums r_order r_before r_roundSums r_carried c_samples c_isGiven c_colours c_many n_samples n_isGiven n_colours n_many f_thrown f_width f_height f_different f_groups f_rowSize f_ready f_size f_rounds f_samples f_isGiven f_colours f_many) sz) (fun (u : Int32 × Int32 × (Nat → Int32) × (Nat → Int32)) => (wdMd_told q_this q_samples q_isGiven q_colours q_many r_gives r_group r_row r_channelOf r_spreads r_boxMany r_there r_groupMany r_means r_sums r_palette r_has r_takers r_takenSums r_order r_before r_roundSums r_carried c_samples c_isGiven c_colours c_many n_samples n_isGiven n_colours n_many u.1 f_width f_height u.2.1 f_groups f_rowSize f_ready f_size f_rounds f_samples f_isGiven u.2.2.1 u.2.2.2))) (va_A (wdMd_told q_this q_samples q_isGiven q_colours q_many r_gives r_group r_row r_channelOf r_spreads r_boxMany r_there r_groupMany r_means r_sums r_palette r_has r_takers r_takenSums r_order r_before r_roundSums r_carried c_samples c_isGiven c_colours c_many n_samples n_isGiven n_colours n_many f_thrown f_width f_height f_different f_groups f_rowSize f_ready f_size f_rounds f_samples f_isGiven f_colours f_many) sz)) 0 0 (va_A (wdMd_told q_this q_samples q_isGiven q_colours q_many r_gives r_group r_row r_channelOf r_spreads r_boxMany r_there r_groupMany r_means r_sums r_palette r_has r_takers r_takenSums r_order r_before r_roundSums r_carried c_samples c_isGiven c_colours c_many n_samples n_isGiven n_colours n_many f_thrown f_width f_height f_different f_groups f_rowSize f_ready f_size f_rounds f_samples f_isGiven f_colours f_many) sz) := by
  refine Met.ofW (cc := bMd_told) (maxL := 2) (ret := (some .int)) (by decide) rfl ?_
  intro p e s m args below meth c s₁ B hml hv
  obtain ⟨rfl, hsz, hP, hK, hD0, hZ⟩ := hv
  have hx := B.exec
  have hb := B.bytes
  have hr := B.returns
  have hts := atoms_spec (ws := (.code yMd_told bMd_told 2 (some .int) :: BIG)) B.pre
  have hB : ∀ w ∈ BIG, w.before _ s = true := fun w h => hts w (List.mem_cons_of_mem _ h)
  have hown : s.vm.findClass RMd = some m.cls := findClass_of_methodNamed B.named
  have hlocks := B.notSynchronized
  subst hsz
  have hD := hD0.self (sz := s.heap.size)
  generalize hAe : va_A (wdMd_told q_this q_samples q_isGiven q_colours q_many r_gives r_group r_row r_channelOf r_spreads r_boxMany r_there r_groupMany r_means r_sums r_palette r_has r_takers r_takenSums r_order r_before r_roundSums r_carried c_samples c_isGiven c_colours c_many n_samples n_isGiven n_colours n_many f_thrown f_width f_height f_different f_groups f_rowSize f_ready f_size f_rounds f_samples f_isGiven f_colours f_many) s.heap.size = A at hD hZ ⊢
  have hA : ∀ q : Nat, s.heap.size ≤ q → A q := fun q h => by rw [← hAe]; exact Or.inr h
  have hS : va_S A s.heap s.heap [] := va_S.rf
  have hl := lv_entry ([.ref q_this, .int x1]) (n := 2) (Nat.le_of_ble_eq_true rfl)
  rw [lg_entry_eq]
  generalize (lg_sl ([.ref q_this, .int x1]) ++ List.replicate (2 - (lg_sl ([.ref q_this, .int x1])).length) Slot.unset).toArray = ls at hl ⊢
  have hl : lv_has ls 2 [(0, .ref q_this), (1, .int x1)] := hl
  have hL78 := (hB _ bw616)
  have hL82 := (hB _ bw617)
  have hL85 := (hB _ bw615)
  have hL100 := (hB _ bw635)
  have hL108 := (hB _ bw621)
  have hL158 := (hB _ bw636)
  refine gx_abs (fun G eG => ?_)
  have j85 : ∀ (s0 : Int32) (f_thrown : Int32) (f_different : Int32) (f_colours : Nat → Int32) (f_many : Nat → Int32), vcMd_told_85 n_samples n_isGiven n_colours n_many f_width f_height f_groups f_rowSize f_ready f_size f_rounds f_samples f_isGiven x1 post s0 f_thrown f_different f_colours f_many → ∀ (H : Heap) (locs : List Loc) (ls : Array Slot), va_P (dC, dI) vwCl (wdMd_told q_this q_samples q_isGiven q_colours q_many r_gives r_group r_row r_channelOf r_spreads r_boxMany r_there r_groupMany r_means r_sums r_palette r_has r_takers r_takenSums r_order r_before r_roundSums r_carried c_samples c_isGiven c_colours c_many n_samples n_isGiven n_colours n_many f_thrown f_width f_height f_different f_groups f_rowSize f_ready f_size f_rounds f_samples f_isGiven f_colours f_many) H → va_D A (wdMd_told q_this q_samples q_isGiven q_colours q_many r_gives r_group r_row r_channelOf r_spreads r_boxMany r_there r_groupMany r_means r_sums r_palette r_has r_takers r_takenSums r_order r_before r_roundSums r_carried c_samples c_isGiven c_colours c_many n_samples n_isGiven n_colours n_many f_thrown f_width f_height f_different f_groups f_rowSize f_ready f_size f_rounds f_samples f_isGiven f_colours f_many) → va_S A s.heap H locs → lv_has ls 2 [] → G H locs 0 0 (F0 m 85 ls [.int s0]) := by
    intro s0 f_thrown f_different f_colours f_many hv H locs ls hP hD hS hl
    rw [eG]
    unfold vcMd_told_85 at hv
    exact W.iret (v := s0) hx hb hr (fun t ht hW => ⟨⟨_, (f_thrown, f_different, f_colours, f_many), rfl, hv, by rw [ht]; exact hP, hD⟩, hS.F ht⟩) hS.2.2 dMd_told_85
  rw [eG] at j85
  have j14 : ∀ (f_thrown : Int32) (f_different : Int32) (f_colours : Nat → Int32) (f_many : Nat → Int32), vcMd_told_14 n_samples n_isGiven n_colours n_many f_width f_height f_groups f_rowSize f_ready f_size f_rounds f_samples f_isGiven x1 post f_thrown f_different f_colours f_many → ∀ (H : Heap) (locs : List Loc) (ls : Array Slot), va_P (dC, dI) vwCl (wdMd_told q_this q_samples q_isGiven q_colours q_many r_gives r_group r_row r_channelOf r_spreads r_boxMany r_there r_groupMany r_means r_sums r_palette r_has r_takers r_takenSums r_order r_before r_roundSums r_carried c_samples c_isGiven c_colours c_many n_samples n_isGiven n_colours n_many f_thrown f_width f_height f_different f_groups f_rowSize f_ready f_size f_rounds f_samples f_isGiven f_colours f_many) H → va_D A (wdMd_told q_this q_samples q_isGiven q_colours q_many r_gives r_group r_row r_channelOf r_spreads r_boxMany r_there r_groupMany r_means r_sums r_palette r_has r_takers r_takenSums r_order r_before r_roundSums r_carried c_samples c_isGiven c_colours c_many n_samples n_isGiven n_colours n_many f_thrown f_width f_height f_different f_groups f_rowSize f_ready f_size f_rounds f_samples f_isGiven f_colours f_many) → va_S A s.heap H locs → lv_has ls 2 [(0, .ref q_this), (1, .int x1)] → G H locs 0 0 (F0 m 14 ls []) := by
    intro f_thrown f_different f_colours f_many hv H locs ls hP hD hS hl
    rw [eG]
    unfold vcMd_told_14 at hv
    refine lv_iload_n hx hb dMd_told_14 rfl (lv_at hl 1 rfl) ?_
    refine lv_if_ne (tgt := 25) hx hb dMd_told_15 (by decide) (fun c_1 => ?_) (fun c_1 => ?_)
    · have hv := hv.1 c_1
      refine lv_iload_n hx hb dMd_told_25 rfl (lv_at hl 1 rfl) ?_
      refine lv_iconst (v := 1) hx hb dMd_told_26 (by decide) ?_
      refine lv_icmp_ne (tgt := 37) hx hb dMd_told_27 (by decide) (fun c_2 => ?_) (fun c_2 => ?_)
      · have hv := hv.1 c_2
        refine lv_iload_n hx hb dMd_told_37 rfl (lv_at hl 1 rfl) ?_
        refine lv_iconst (v := 2) hx hb dMd_told_38 (by decide) ?_
        refine lv_icmp_ne (tgt := 49) hx hb dMd_told_39 (by decide) (fun c_3 => ?_) (fun c_3 => ?_)
        · have hv := hv.1 c_3
          refine lv_iload_n hx hb dMd_told_49 rfl (lv_at hl 1 rfl) ?_
          refine lv_iconst (v := 3) hx hb dMd_told_50 (by decide) ?_
          refine lv_icmp_ne (tgt := 72) hx hb dMd_told_51 (by decide) (fun c_4 => ?_) (fun c_4 => ?_)
          · have hv := hv.1 c_4
            refine lv_iload_n hx hb dMd_told_72 rfl (lv_at hl 1 rfl) ?_
            refine lv_iconst (v := 4) hx hb dMd_told_73 (by decide) ?_
            refine lv_icmp_ne (tgt := 84) hx hb dMd_told_74 (by decide) (fun c_5 => ?_) (fun c_5 => ?_)
            · have hv := hv.1 c_5
              refine lv_iconst (v := (-1)) hx hb dMd_told_84 (by decide) ?_
              exact j85 (-1) f_thrown f_different f_colours f_many hv _ _ _ hP hD hS (lv_sub hl [] rfl)
            · have hv := hv.2 c_5
              refine lv_aload_n hx hb dMd_told_77 rfl (lv_at hl 0 rfl) ?_
              have hFc := va_free (wc := (wdMd_givenCount q_this q_isGiven q_samples r_gives q_colours q_many r_group r_row r_channelOf r_spreads r_boxMany r_there r_groupMany r_means r_sums r_palette r_has r_takers r_takenSums r_order r_before r_roundSums r_carried c_isGiven n_isGiven f_thrown f_width f_height f_different f_groups f_rowSize f_ready f_size f_rounds f_isGiven)) hD hS hA [0, 2] rfl
              refine gx_i (wr := [(q_samples, .inl (c_samples, n_samples, .inl f_samples)), (q_colours, .inl (c_colours, n_colours, .inl f_colours)), (q_many, .inl (c_many, n_many, .inl f_many))]) (va_runV (As := []) (rest := []) ⟨hx, hb, hml, hown, hB⟩ (metMd_givenCount l dC dI q_this q_isGiven q_samples r_gives q_colours q_many r_group r_row r_channelOf r_spreads r_boxMany r_there r_groupMany r_means r_sums r_palette r_has r_takers r_takenSums r_order r_before r_roundSums r_carried c_isGiven n_isGiven H.size f_thrown f_width f_height f_different f_groups f_rowSize f_ready f_size f_rounds f_isGiven hv) (cwV 0 hB (gx_gV bw706 bw707 bw25 bw53 bw708) rfl rfl rfl (by decide +kernel) ⟨(Nat.le_of_ble_eq_true rfl), (Nat.le_of_ble_eq_true rfl)⟩) (gx_preV (ci := 8) (hP.sub (ws' := (wdMd_givenCount q_this q_isGiven q_samples r_gives q_colours q_many r_group r_row r_channelOf r_spreads r_boxMany r_there r_groupMany r_means r_sums r_palette r_has r_takers r_takenSums r_order r_before r_roundSums r_carried c_isGiven n_isGiven f_thrown f_width f_height f_different f_groups f_rowSize f_ready f_size f_rounds f_isGiven)) [0, 2] rfl) (hK.sub (tys' := [(c_isGiven, .boolean)]) [1] rfl) (hD.sub (ws' := (wdMd_givenCount q_this q_isGiven q_samples r_gives q_colours q_many r_group r_row r_channelOf r_spreads r_boxMany r_there r_groupMany r_means r_sums r_palette r_has r_takers r_takenSums r_order r_before r_roundSums r_carried c_isGiven n_isGiven f_thrown f_width f_height f_different f_groups f_rowSize f_ready f_size f_rounds f_isGiven)) [0, 2] (by decide) rfl) hZ hS hFc rfl rfl) rfl rfl hl.1 rfl (lv_room (Nat.le_of_ble_eq_true rfl)) dMd_told_78 ⟨(Nat.le_of_ble_eq_true rfl), (Nat.le_of_ble_eq_true rfl)⟩) hP hD hS hFc [0, 2] [1, 3, 4] rfl rfl (by decide) (by decide) (fun r_6 u_7 H locs hv hP hD hS => ?_)
              have hP : va_P (dC, dI) vwCl (wdMd_told q_this q_samples q_isGiven q_colours q_many r_gives r_group r_row r_channelOf r_spreads r_boxMany r_there r_groupMany r_means r_sums r_palette r_has r_takers r_takenSums r_order r_before r_roundSums r_carried c_samples c_isGiven c_colours c_many n_samples n_isGiven n_colours n_many f_thrown f_width f_height f_different f_groups f_rowSize f_ready f_size f_rounds f_samples f_isGiven f_colours f_many) H := hP.sub [3, 0, 4, 1, 2] rfl
              have hD : va_D A (wdMd_told q_this q_samples q_isGiven q_colours q_many r_gives r_group r_row r_channelOf r_spreads r_boxMany r_there r_groupMany r_means r_sums r_palette r_has r_takers r_takenSums r_order r_before r_roundSums r_carried c_samples c_isGiven c_colours c_many n_samples n_isGiven n_colours n_many f_thrown f_width f_height f_different f_groups f_rowSize f_ready f_size f_rounds f_samples f_isGiven f_colours f_many) := hD.sub [3, 0, 4, 1, 2] (by decide) rfl
              refine lv_goto (tgt := 85) hx hb dMd_told_81 (by decide) ?_
              exact j85 r_6 f_thrown f_different f_colours f_many hv _ _ _ hP hD hS (lv_sub hl [] rfl)
          · have hv := hv.2 c_4
            refine lv_aload_n hx hb dMd_told_54 rfl (lv_at hl 0 rfl) ?_
            refine va_get (D := (dC, dI)) (ci := 8) (v := .int f_ready) (C := RMd) (T := TMd) (N := 31) hx hb hB hiMd hown hK hP 0 rfl rfl 20 (by decide) hL100 (fun _ h9 => h9) rfl dMd_told_55 ?_
            refine lv_if_eq (tgt := 68) hx hb dMd_told_58 (by decide) (fun c_8 => ?_) (fun c_8 => ?_)
            · have hv := hv.1 c_8
              refine lv_iconst (v := 0) hx hb dMd_told_68 (by decide) ?_
              refine lv_goto (tgt := 85) hx hb dMd_told_69 (by decide) ?_
              exact j85 0 f_thrown f_different f_colours f_many hv _ _ _ hP hD hS (lv_sub hl [] rfl)
            · have hv := hv.2 c_8
              refine lv_aload_n hx hb dMd_told_61 rfl (lv_at hl 0 rfl) ?_
              refine va_get (D := (dC, dI)) (ci := 8) (v := .int f_size) (C := RMd) (T := TMd) (N := 31) hx hb hB hiMd hown hK hP 0 rfl rfl 21 (by decide) hL158 (fun _ h9 => h9) rfl dMd_told_62 ?_
              refine lv_goto (tgt := 85) hx hb dMd_told_65 (by decide) ?_
              exact j85 f_size f_thrown f_different f_colours f_many hv _ _ _ hP hD hS (lv_sub hl [] rfl)
        · have hv := hv.2 c_3
          refine lv_aload_n hx hb dMd_told_42 rfl (lv_at hl 0 rfl) ?_
          refine va_get (D := (dC, dI)) (ci := 8) (v := .int f_different) (C := RMd) (T := TMd) (N := 31) hx hb hB hiMd hown hK hP 0 rfl rfl 6 (by decide) hL108 (fun _ h9 => h9) rfl dMd_told_43 ?_
          refine lv_goto (tgt := 85) hx hb dMd_told_46 (by decide) ?_
          exact j85 f_different f_thrown f_different f_colours f_many hv _ _ _ hP hD hS (lv_sub hl [] rfl)
      · have hv := hv.2 c_2
        refine lv_aload_n hx hb dMd_told_30 rfl (lv_at hl 0 rfl) ?_
        refine va_get (D := (dC, dI)) (ci := 8) (v := .int f_height) (C := RMd) (T := TMd) (N := 31) hx hb hB hiMd hown hK hP 0 rfl rfl 2 (by decide) hL82 (fun _ h9 => h9) rfl dMd_told_31 ?_
        refine lv_goto (tgt := 85) hx hb dMd_told_34 (by decide) ?_
        exact j85 f_height f_thrown f_different f_colours f_many hv _ _ _ hP hD hS (lv_sub hl [] rfl)
    · have hv := hv.2 c_1
      refine lv_aload_n hx hb dMd_told_18 rfl (lv_at hl 0 rfl) ?_
      refine va_get (D := (dC, dI)) (ci := 8) (v := .int f_width) (C := RMd) (T := TMd) (N := 31) hx hb hB hiMd hown hK hP 0 rfl rfl 1 (by decide) hL78 (fun _ h9 => h9) rfl dMd_told_19 ?_
      refine lv_goto (tgt := 85) hx hb dMd_told_22 (by decide) ?_
      exact j85 f_width f_thrown f_different f_colours f_many hv _ _ _ hP hD hS (lv_sub hl [] rfl)
  rw [eG] at j14
  unfold wpMd_told at hw
  have hv := hw
  rw [eG]
  refine lv_aload_n hx hb dMd_told_0 rfl (lv_at hl 0 rfl) ?_
  refine lv_iconst (v := 0) hx hb dMd_told_1 (by decide) ?_
  refine va_put (D := (dC, dI)) (ci := 8) (v := .int 0) (ty := .int) (C := RMd) (T := TMd) (N := 31) hx hb hB hiMd tMd tMd_ok nMd hown hK hP hD hS 0 rfl rfl 0 (by decide) hL85 (fun _ h9 => h9) rfl (by decide +kernel) rfl rfl (Nat.le_of_ble_eq_true rfl) dMd_told_2 (fun H locs hP hD hS => ?_)
  have hP : va_P (dC, dI) vwCl (wdMd_told q_this q_samples q_isGiven q_colours q_many r_gives r_group r_row r_channelOf r_spreads r_boxMany r_there r_groupMany r_means r_sums r_palette r_has r_takers r_takenSums r_order r_before r_roundSums r_carried c_samples c_isGiven c_colours c_many n_samples n_isGiven n_colours n_many 0 f_width f_height f_different f_groups f_rowSize f_ready f_size f_rounds f_samples f_isGiven f_colours f_many) H := hP
  have hD : va_D A (wdMd_told q_this q_samples q_isGiven q_colours q_many r_gives r_group r_row r_channelOf r_spreads r_boxMany r_there r_groupMany r_means r_sums r_palette r_has r_takers r_takenSums r_order r_before r_roundSums r_carried c_samples c_isGiven c_colours c_many n_samples n_isGiven n_colours n_many 0 f_width f_height f_different f_groups f_rowSize f_ready f_size f_rounds f_samples f_isGiven f_colours f_many) := hD
  refine lv_iload_n hx hb dMd_told_5 rfl (lv_at hl 1 rfl) ?_
  refine lv_iconst (v := 2) hx hb dMd_told_6 (by decide) ?_
  refine lv_icmp_ne (tgt := 14) hx hb dMd_told_7 (by decide) (fun c_9 => ?_) (fun c_9 => ?_)
  · have hv := hv.1 c_9
    exact j14 0 f_different f_colours f_many hv _ _ _ hP hD hS (lv_sub hl [0, 1] rfl)
  · have hv := hv.2 c_9
    refine lv_aload_n hx hb dMd_told_10 rfl (lv_at hl 0 rfl) ?_
    have hFc := va_free (wc := (wdMd_findDifferent q_this q_samples q_colours q_many q_isGiven r_gives r_group r_row r_channelOf r_spreads r_boxMany r_there r_groupMany r_means r_sums r_palette r_has r_takers r_takenSums r_order r_before r_roundSums r_carried c_samples c_colours c_many n_samples n_colours n_many 0 f_width f_height f_different f_groups f_rowSize f_ready f_size f_rounds f_samples f_colours f_many)) hD hS hA [0, 1, 3, 4] rfl
    refine gx_v (wr := [(q_isGiven, .inl (c_isGiven, n_isGiven, .inl f_isGiven))]) (va_runV (As := []) (rest := []) ⟨hx, hb, hml, hown, hB⟩ (metMd_findDifferent l dC dI q_this q_samples q_colours q_many q_isGiven r_gives r_group r_row r_channelOf r_spreads r_boxMany r_there r_groupMany r_means r_sums r_palette r_has r_takers r_takenSums r_order r_before r_roundSums r_carried c_samples c_colours c_many n_samples n_colours n_many H.size 0 f_width f_height f_different f_groups f_rowSize f_ready f_size f_rounds f_samples f_colours f_many hv) (cwV 0 hB (gx_gV bw719 bw720 bw27 bw53 bw721) rfl rfl rfl (by decide +kernel) ⟨(Nat.le_of_ble_eq_true rfl), (Nat.le_of_ble_eq_true rfl)⟩) (gx_preV (ci := 8) (hP.sub (ws' := (wdMd_findDifferent q_this q_samples q_colours q_many q_isGiven r_gives r_group r_row r_channelOf r_spreads r_boxMany r_there r_groupMany r_means r_sums r_palette r_has r_takers r_takenSums r_order r_before r_roundSums r_carried c_samples c_colours c_many n_samples n_colours n_many 0 f_width f_height f_different f_groups f_rowSize f_ready f_size f_rounds f_samples f_colours f_many)) [0, 1, 3, 4] rfl) (hK.sub (tys' := [(c_samples, .int), (c_colours, .int), (c_many, .int)]) [0, 2, 3] rfl) (hD.sub (ws' := (wdMd_findDifferent q_this q_samples q_colours q_many q_isGiven r_gives r_group r_row r_channelOf r_spreads r_boxMany r_there r_groupMany r_means r_sums r_palette r_has r_takers r_takenSums r_order r_before r_roundSums r_carried c_samples c_colours c_many n_samples n_colours n_many 0 f_width f_height f_different f_groups f_rowSize f_ready f_size f_rounds f_samples f_colours f_many)) [0, 1, 3, 4] (by decide) rfl) hZ hS hFc rfl rfl) rfl rfl hl.1 rfl (lv_room (Nat.le_of_ble_eq_true rfl)) dMd_told_11 ⟨(Nat.le_of_ble_eq_true rfl), (Nat.le_of_ble_eq_true rfl)⟩) hP hD hS hFc [0, 1, 3, 4] [2] rfl rfl (by decide) (by decide) (fun u_13 H locs hv hP hD hS => ?_)
    obtain ⟨f_different_10, f_colours_11, f_many_12⟩ := u_13
    have hP : va_P (dC, dI) vwCl (wdMd_told q_this q_samples q_isGiven q_colours q_many r_gives r_group r_row r_channelOf r_spreads r_boxMany r_there r_groupMany r_means r_sums r_palette r_has r_takers r_takenSums r_order r_before r_roundSums r_carried c_samples c_isGiven c_colours c_many n_samples n_isGiven n_colours n_many 0 f_width f_height f_different_10 f_groups f_rowSize f_ready f_size f_rounds f_samples f_isGiven f_colours_11 f_many_12) H := hP.sub [1, 2, 0, 3, 4] rfl
    have hD : va_D A (wdMd_told q_this q_samples q_isGiven q_colours q_many r_gives r_group r_row r_channelOf r_spreads r_boxMany r_there r_groupMany r_means r_sums r_palette r_has r_takers r_takenSums r_order r_before r_roundSums r_carried c_samples c_isGiven c_colours c_many n_samples n_isGiven n_colours n_many 0 f_width f_height f_different_10 f_groups f_rowSize f_ready f_size f_rounds f_samples f_isGiven f_colours_11 f_many_12) := hD.sub [1, 2, 0, 3, 4] (by decide) rfl
    exact j14 0 f_different_10 f_colours_11 f_many_12 hv _ _ _ hP hD hS (lv_sub hl [0, 1] rfl)
abbrev wdMd_clear (q_this q_samples q_isGiven r_gives r_colours r_many r_group r_row r_channelOf r_spreads r_boxMany r_there r_groupMany r_means r_sums r_palette r_has r_takers r_takenSums r_order r_before r_roundSums r_carried : Nat) (c_samples c_isGiven : ClassId) (n_samples n_isGiven : Nat) (f_thrown : Int32) (f_width : Int32) (f_height : Int32) (f_different : Int32) (f_groups : Int32) (f_rowSize : Int32) (f_ready : Int32) (f_size : Int32) (f_rounds : Int32) (f_samples : Nat → Int32) (f_isGiven : Nat → Int32) : va_W := [(q_this, .inr (8, [.int f_thrown, .int f_width, .int f_height, .ref q_samples, .ref q_isGiven, .ref r_gives, .int f_different, .ref r_colours, .ref r_many, .ref r_group, .int f_groups, .ref r_row, .int f_rowSize, .ref r_channelOf, .ref r_spreads, .ref r_boxMany, .ref r_there, .ref r_groupMany, .ref r_means, .ref r_sums, .int f_ready, .int f_size, .ref r_palette, .ref r_has, .ref r_takers, .ref r_takenSums, .ref r_order, .ref r_before, .int f_rounds, .ref r_roundSums, .ref r_carried])), (q_samples, .inl (c_samples, n_samples, .inl f_samples)), (q_isGiven, .inl (c_isGiven, n_isGiven, .inl f_isGiven))]
set_option maxHeartbeats 4000000 in
set_option maxRecDepth 100000 in
theorem metMd_clear (l : Launch) (dC : Nat → ClassId) (dI : Nat → Nat → Nat) (q_this q_samples q_isGiven r_gives r_colours r_many r_group r_row r_channelOf r_spreads r_boxMany r_there r_groupMany r_means r_sums r_palette r_has r_takers r_takenSums r_order r_before r_roundSums r_carried : Nat) (c_samples c_isGiven : ClassId) (n_samples n_isGiven : Nat) (sz : Nat) (f_thrown : Int32) (f_width : Int32) (f_height : Int32) (f_different : Int32) (f_groups : Int32) (f_rowSize : Int32) (f_ready : Int32) (f_size : Int32) (f_rounds : Int32) (f_samples : Nat → Int32) (f_isGiven : Nat → Int32) {post : Int32 → Int32 → (Nat → Int32) → (Nat → Int32) → Prop} (hw : wpMd_clear n_samples n_isGiven f_thrown f_width f_height f_different f_groups f_rowSize f_ready f_size f_rounds f_samples f_isGiven post) : Met l yMd_clear (.code yMd_clear bMd_clear 2 none :: BIG) ({ frames := 0, cells := 0, slots := 0, locals := 0 }) (va_Pc [.ref q_this] (gx_pre (dC, dI) vwCl (wdMd_clear q_this q_samples q_isGiven r_gives r_colours r_many r_group r_row r_channelOf r_spreads r_boxMany r_there r_groupMany r_means r_sums r_palette r_has r_takers r_takenSums r_order r_before r_roundSums r_carried c_samples c_isGiven n_samples n_isGiven f_thrown f_width f_height f_different f_groups f_rowSize f_ready f_size f_rounds f_samples f_isGiven) [(c_samples, .int), (c_isGiven, .boolean)] sz)) (va_Qv (fun (u : Int32 × Int32 × (Nat → Int32) × (Nat → Int32)) => post u.1 u.2.1 u.2.2.1 u.2.2.2) (gx_B (dC, dI) vwCl (va_A (wdMd_clear q_this q_samples q_isGiven r_gives r_colours r_many r_group r_row r_channelOf r_spreads r_boxMany r_there r_groupMany r_means r_sums r_palette r_has r_takers r_takenSums r_order r_before r_roundSums r_carried c_samples c_isGiven n_samples n_isGiven f_thrown f_width f_height f_different f_groups f_rowSize f_ready f_size f_rounds f_samples f_isGiven) sz) (fun (u : Int32 × Int32 × (Nat → Int32) × (Nat → Int32)) => (wdMd_clear q_this q_samples q_isGiven r_gives r_colours r_many r_group r_row r_channelOf r_spreads r_boxMany r_there r_groupMany r_means r_sums r_palette r_has r_takers r_takenSums r_order r_before r_roundSums r_carried c_samples c_isGiven n_samples n_isGiven u.1 f_width f_height f_different f_groups f_rowSize u.2.1 f_size f_rounds u.2.2.1 u.2.2.2))) (va_A (wdMd_clear q_this q_samples q_isGiven r_gives r_colours r_many r_group r_row r_channelOf r_spreads r_boxMany r_there r_groupMany r_means r_sums r_palette r_has r_takers r_takenSums r_order r_before r_roundSums r_carried c_samples c_isGiven n_samples n_isGiven f_thrown f_width f_height f_different f_groups f_rowSize f_ready f_size f_rounds f_samples f_isGiven) sz)) 0 0 (va_A (wdMd_clear q_this q_samples q_isGiven r_gives r_colours r_many r_group r_row r_channelOf r_spreads r_boxMany r_there r_groupMany r_means r_sums r_palette r_has r_takers r_takenSums r_order r_before r_roundSums r_carried c_samples c_isGiven n_samples n_isGiven f_thrown f_width f_height f_different f_groups f_rowSize f_ready f_size f_rounds f_samples f_isGiven) sz) := by
  refine Met.ofW (cc := bMd_clear) (maxL := 2) (ret := none) (by decide) rfl ?_
  intro p e s m args below meth c s₁ B hml hv
  obtain ⟨rfl, hsz, hP, hK, hD0, hZ⟩ := hv
  have hx := B.exec
  have hb := B.bytes
  have hr := B.returns
  have hts := atoms_spec (ws := (.code yMd_clear bMd_clear 2 none :: BIG)) B.pre
  have hB : ∀ w ∈ BIG, w.before _ s = true := fun w h => hts w (List.mem_cons_of_mem _ h)
  have hown : s.vm.findClass RMd = some m.cls := findClass_of_methodNamed B.named
  have hlocks := B.notSynchronized
  subst hsz
  have hD := hD0.self (sz := s.heap.size)
  generalize hAe : va_A (wdMd_clear q_this q_samples q_isGiven r_gives r_colours r_many r_group r_row r_channelOf r_spreads r_boxMany r_there r_groupMany r_means r_sums r_palette r_has r_takers r_takenSums r_order r_before r_roundSums r_carried c_samples c_isGiven n_samples n_isGiven f_thrown f_width f_height f_different f_groups f_rowSize f_ready f_size f_rounds f_samples f_isGiven) s.heap.size = A at hD hZ ⊢
  have hA : ∀ q : Nat, s.heap.size ≤ q → A q := fun q h => by rw [← hAe]; exact Or.inr h
  have hS : va_S A s.heap s.heap [] := va_S.rf
  have hl := lv_entry ([.ref q_this]) (n := 2) (Nat.le_of_ble_eq_true rfl)
  rw [lg_entry_eq]
  generalize (lg_sl ([.ref q_this]) ++ List.replicate (2 - (lg_sl ([.ref q_this])).length) Slot.unset).toArray = ls at hl ⊢
  have hl : lv_has ls 2 [(0, .ref q_this)] := hl
  have hL7 := (hB _ bw618)
  have hL13 := (hB _ bw619)
  have hL78 := (hB _ bw616)
  have hL82 := (hB _ bw617)
  have hL85 := (hB _ bw615)
  have hL100 := (hB _ bw635)
  refine gx_abs (fun G eG => ?_)
  obtain ⟨K7, eK7⟩ : ∃ K : Int32 → Int32 → Int32 → (Nat → Int32) → (Nat → Int32) → Prop, K = fun v1 f_thrown f_ready f_samples f_isGiven => ∀ (H : Heap) (locs : List Loc) (ls : Array Slot), va_P (dC, dI) vwCl (wdMd_clear q_this q_samples q_isGiven r_gives r_colours r_many r_group r_row r_channelOf r_spreads r_boxMany r_there r_groupMany r_means r_sums r_palette r_has r_takers r_takenSums r_order r_before r_roundSums r_carried c_samples c_isGiven n_samples n_isGiven f_thrown f_width f_height f_different f_groups f_rowSize f_ready f_size f_rounds f_samples f_isGiven) H → va_D A (wdMd_clear q_this q_samples q_isGiven r_gives r_colours r_many r_group r_row r_channelOf r_spreads r_boxMany r_there r_groupMany r_means r_sums r_palette r_has r_takers r_takenSums r_order r_before r_roundSums r_carried c_samples c_isGiven n_samples n_isGiven f_thrown f_width f_height f_different f_groups f_rowSize f_ready f_size f_rounds f_samples f_isGiven) → va_S A s.heap H locs → lv_has ls 2 [(0, .ref q_this), (1, .int v1)] → G H locs 0 0 (F0 m 7 ls []) := ⟨_, rfl⟩
  obtain ⟨K37, eK37⟩ : ∃ K : Int32 → Int32 → Int32 → (Nat → Int32) → (Nat → Int32) → Prop, K = fun v1 f_thrown f_ready f_samples f_isGiven => ∀ (H : Heap) (locs : List Loc) (ls : Array Slot), va_P (dC, dI) vwCl (wdMd_clear q_this q_samples q_isGiven r_gives r_colours r_many r_group r_row r_channelOf r_spreads r_boxMany r_there r_groupMany r_means r_sums r_palette r_has r_takers r_takenSums r_order r_before r_roundSums r_carried c_samples c_isGiven n_samples n_isGiven f_thrown f_width f_height f_different f_groups f_rowSize f_ready f_size f_rounds f_samples f_isGiven) H → va_D A (wdMd_clear q_this q_samples q_isGiven r_gives r_colours r_many r_group r_row r_channelOf r_spreads r_boxMany r_there r_groupMany r_means r_sums r_palette r_has r_takers r_takenSums r_order r_before r_roundSums r_carried c_samples c_isGiven n_samples n_isGiven f_thrown f_width f_height f_different f_groups f_rowSize f_ready f_size f_rounds f_samples f_isGiven) → va_S A s.heap H locs → lv_has ls 2 [(0, .ref q_this), (1, .int v1)] → G H locs 0 0 (F0 m 37 ls []) := ⟨_, rfl⟩
  unfold wpMd_clear at hw
  have hv := hw K7 K37
  have hv := hv (by
    intro v1 f_thrown f_ready f_samples f_isGiven hv
    rw [eK7]
    intro H locs ls hP hD hS hl
    rw [eG]
    unfold vcMd_clear_7 at hv
    refine lv_iload_n hx hb dMd_clear_7 rfl (lv_at hl 1 rfl) ?_
    refine lv_iconst (v := 4) hx hb dMd_clear_8 (by decide) ?_
    refine lv_aload_n hx hb dMd_clear_9 rfl (lv_at hl 0 rfl) ?_
    refine va_get (D := (dC, dI)) (ci := 8) (v := .int f_width) (C := RMd) (T := TMd) (N := 31) hx hb hB hiMd hown hK hP 0 rfl rfl 1 (by decide) hL78 (fun _ h9 => h9) rfl dMd_clear_10 ?_
    refine lv_imul hx hb dMd_clear_13 ?_
    refine lv_aload_n hx hb dMd_clear_14 rfl (lv_at hl 0 rfl) ?_
    refine va_get (D := (dC, dI)) (ci := 8) (v := .int f_height) (C := RMd) (T := TMd) (N := 31) hx hb hB hiMd hown hK hP 0 rfl rfl 2 (by decide) hL82 (fun _ h9 => h9) rfl dMd_clear_15 ?_
    refine lv_imul hx hb dMd_clear_18 ?_
    refine lv_icmp_ge (tgt := 35) hx hb dMd_clear_19 (by decide) (fun c_1 => ?_) (fun c_1 => ?_)
    · have hv := hv.1 c_1
      refine lv_iconst (v := 0) hx hb dMd_clear_35 (by decide) ?_
      refine lv_istore_n (lv' := [(1, .int 0), (0, .ref q_this)]) hx hb dMd_clear_36 rfl hl (by decide) rfl (fun ls hl => ?_)
      rw [eK37, eG] at hv
      exact hv _ _ _ hP hD hS (lv_sub hl [1, 0] rfl)
    · have hv := hv.2 c_1
      refine lv_aload_n hx hb dMd_clear_22 rfl (lv_at hl 0 rfl) ?_
      refine va_get (D := (dC, dI)) (ci := 8) (v := .ref q_samples) (C := RMd) (T := TMd) (N := 31) hx hb hB hiMd hown hK hP 0 rfl rfl 3 (by decide) hL7 (fun _ h9 => h9) rfl dMd_clear_23 ?_
      refine lv_iload_n hx hb dMd_clear_26 rfl (lv_at hl 1 rfl) ?_
      refine lv_iconst (v := 0) hx hb dMd_clear_27 (by decide) ?_
      obtain ⟨h_2, hv⟩ := hv
      refine va_iast hx hb hK hP hD hS 1 0 rfl rfl h_2 dMd_clear_28 (fun H locs hP hD hS => ?_)
      have hP : va_P (dC, dI) vwCl (wdMd_clear q_this q_samples q_isGiven r_gives r_colours r_many r_group r_row r_channelOf r_spreads r_boxMany r_there r_groupMany r_means r_sums r_palette r_has r_takers r_takenSums r_order r_before r_roundSums r_carried c_samples c_isGiven n_samples n_isGiven f_thrown f_width f_height f_different f_groups f_rowSize f_ready f_size f_rounds (upd f_samples v1.toNatClampNeg 0) f_isGiven) H := hP
      have hD : va_D A (wdMd_clear q_this q_samples q_isGiven r_gives r_colours r_many r_group r_row r_channelOf r_spreads r_boxMany r_there r_groupMany r_means r_sums r_palette r_has r_takers r_takenSums r_order r_before r_roundSums r_carried c_samples c_isGiven n_samples n_isGiven f_thrown f_width f_height f_different f_groups f_rowSize f_ready f_size f_rounds (upd f_samples v1.toNatClampNeg 0) f_isGiven) := hD
      refine lv_iinc (v := v1 + 1) (lv' := [(1, .int (v1 + 1)), (0, .ref q_this)]) hx hb dMd_clear_29 hl (k := 1) rfl rfl (by decide) rfl (fun ls hl => ?_)
      refine lv_goto (tgt := 7) hx hb dMd_clear_32 (by decide) ?_
      rw [eK7, eG] at hv
      exact hv _ _ _ hP hD hS (lv_sub hl [1, 0] rfl))
  have hv := hv (by
    intro v1 f_thrown f_ready f_samples f_isGiven hv
    rw [eK37]
    intro H locs ls hP hD hS hl
    rw [eG]
    unfold vcMd_clear_37 at hv
    refine lv_iload_n hx hb dMd_clear_37 rfl (lv_at hl 1 rfl) ?_
    refine lv_bipush (v := 64) hx hb dMd_clear_38 (by decide) ?_
    refine lv_icmp_ge (tgt := 56) hx hb dMd_clear_40 (by decide) (fun c_4 => ?_) (fun c_4 => ?_)
    · have hv := hv.1 c_4
      refine lv_aload_n hx hb dMd_clear_56 rfl (lv_at hl 0 rfl) ?_
      refine lv_iconst (v := 0) hx hb dMd_clear_57 (by decide) ?_
      refine va_put (D := (dC, dI)) (ci := 8) (v := .int 0) (ty := .boolean) (C := RMd) (T := TMd) (N := 31) hx hb hB hiMd tMd tMd_ok nMd hown hK hP hD hS 0 rfl rfl 20 (by decide) hL100 (fun _ h9 => h9) rfl (by decide +kernel) rfl rfl (Nat.le_of_ble_eq_true rfl) dMd_clear_58 (fun H locs hP hD hS => ?_)
      have hP : va_P (dC, dI) vwCl (wdMd_clear q_this q_samples q_isGiven r_gives r_colours r_many r_group r_row r_channelOf r_spreads r_boxMany r_there r_groupMany r_means r_sums r_palette r_has r_takers r_takenSums r_order r_before r_roundSums r_carried c_samples c_isGiven n_samples n_isGiven f_thrown f_width f_height f_different f_groups f_rowSize 0 f_size f_rounds f_samples f_isGiven) H := hP
      have hD : va_D A (wdMd_clear q_this q_samples q_isGiven r_gives r_colours r_many r_group r_row r_channelOf r_spreads r_boxMany r_there r_groupMany r_means r_sums r_palette r_has r_takers r_takenSums r_order r_before r_roundSums r_carried c_samples c_isGiven n_samples n_isGiven f_thrown f_width f_height f_different f_groups f_rowSize 0 f_size f_rounds f_samples f_isGiven) := hD
      exact W.vret hx hb hr (fun t ht hW => ⟨⟨(f_thrown, 0, f_samples, f_isGiven), rfl, hv, by rw [ht]; exact hP, hD⟩, hS.F ht⟩) hS.2.2 dMd_clear_61
    · have hv := hv.2 c_4
      refine lv_aload_n hx hb dMd_clear_43 rfl (lv_at hl 0 rfl) ?_
      refine va_get (D := (dC, dI)) (ci := 8) (v := .ref q_isGiven) (C := RMd) (T := TMd) (N := 31) hx hb hB hiMd hown hK hP 0 rfl rfl 4 (by decide) hL13 (fun _ h9 => h9) rfl dMd_clear_44 ?_
      refine lv_iload_n hx hb dMd_clear_47 rfl (lv_at hl 1 rfl) ?_
      refine lv_iconst (v := 0) hx hb dMd_clear_48 (by decide) ?_
      obtain ⟨h_5, hv⟩ := hv
      refine va_zast hx hb hK hP hD hS 2 1 rfl rfl h_5 dMd_clear_49 (fun H locs hP hD hS => ?_)
      have hP : va_P (dC, dI) vwCl (wdMd_clear q_this q_samples q_isGiven r_gives r_colours r_many r_group r_row r_channelOf r_spreads r_boxMany r_there r_groupMany r_means r_sums r_palette r_has r_takers r_takenSums r_order r_before r_roundSums r_carried c_samples c_isGiven n_samples n_isGiven f_thrown f_width f_height f_different f_groups f_rowSize f_ready f_size f_rounds f_samples (upd f_isGiven v1.toNatClampNeg (vp_nar .boolean 0))) H := hP
      have hD : va_D A (wdMd_clear q_this q_samples q_isGiven r_gives r_colours r_many r_group r_row r_channelOf r_spreads r_boxMany r_there r_groupMany r_means r_sums r_palette r_has r_takers r_takenSums r_order r_before r_roundSums r_carried c_samples c_isGiven n_samples n_isGiven f_thrown f_width f_height f_different f_groups f_rowSize f_ready f_size f_rounds f_samples (upd f_isGiven v1.toNatClampNeg (vp_nar .boolean 0))) := hD
      refine lv_iinc (v := v1 + 1) (lv' := [(1, .int (v1 + 1)), (0, .ref q_this)]) hx hb dMd_clear_50 hl (k := 1) rfl rfl (by decide) rfl (fun ls hl => ?_)
      refine lv_goto (tgt := 37) hx hb dMd_clear_53 (by decide) ?_
      rw [eK37, eG] at hv
      exact hv _ _ _ hP hD hS (lv_sub hl [1, 0] rfl))
  rw [eG]
  refine lv_aload_n hx hb dMd_clear_0 rfl (lv_at hl 0 rfl) ?_
  refine lv_iconst (v := 0) hx hb dMd_clear_1 (by decide) ?_
  refine va_put (D := (dC, dI)) (ci := 8) (v := .int 0) (ty := .int) (C := RMd) (T := TMd) (N := 31) hx hb hB hiMd tMd tMd_ok nMd hown hK hP hD hS 0 rfl rfl 0 (by decide) hL85 (fun _ h9 => h9) rfl (by decide +kernel) rfl rfl (Nat.le_of_ble_eq_true rfl) dMd_clear_2 (fun H locs hP hD hS => ?_)
  have hP : va_P (dC, dI) vwCl (wdMd_clear q_this q_samples q_isGiven r_gives r_colours r_many r_group r_row r_channelOf r_spreads r_boxMany r_there r_groupMany r_means r_sums r_palette r_has r_takers r_takenSums r_order r_before r_roundSums r_carried c_samples c_isGiven n_samples n_isGiven 0 f_width f_height f_different f_groups f_rowSize f_ready f_size f_rounds f_samples f_isGiven) H := hP
  have hD : va_D A (wdMd_clear q_this q_samples q_isGiven r_gives r_colours r_many r_group r_row r_channelOf r_spreads r_boxMany r_there r_groupMany r_means r_sums r_palette r_has r_takers r_takenSums r_order r_before r_roundSums r_carried c_samples c_isGiven n_samples n_isGiven 0 f_width f_height f_different f_groups f_rowSize f_ready f_size f_rounds f_samples f_isGiven) := hD
  refine lv_iconst (v := 0) hx hb dMd_clear_5 (by decide) ?_
  refine lv_istore_n (lv' := [(1, .int 0), (0, .ref q_this)]) hx hb dMd_clear_6 rfl hl (by decide) rfl (fun ls hl => ?_)
  rw [eK7, eG] at hv
  exact hv _ _ _ hP hD hS (lv_sub hl [1, 0] rfl)
