abbrev wdBx_cut (q_this q_row q_start q_end q_weight q_spread q_widest q_shades q_shades_tint q_shades_many q_shades_keys r_shades_rank : Nat) (c_row c_start c_end c_weight c_spread c_widest c_shades_tint c_shades_many c_shades_keys : ClassId) (n_row n_start n_end n_weight n_spread n_widest n_shades_tint n_shades_many n_shades_keys : Nat) (f_size : Int32) (f_row : Nat → Int32) (f_start : Nat → Int32) (f_end : Nat → Int32) (f_weight : Nat → Int32) (f_spread : Nat → Int32) (f_widest : Nat → Int32) (f_shades_size : Int32) (f_shades_stale : Int32) (f_shades_tint : Nat → Int32) (f_shades_many : Nat → Int32) (f_shades_keys : Nat → Int64) : va_W := [(q_this, .inr (0, [.ref q_row, .ref q_start, .ref q_end, .ref q_weight, .ref q_spread, .ref q_widest, .int f_size])), (q_row, .inl (c_row, n_row, .inl f_row)), (q_start, .inl (c_start, n_start, .inl f_start)), (q_end, .inl (c_end, n_end, .inl f_end)), (q_weight, .inl (c_weight, n_weight, .inl f_weight)), (q_spread, .inl (c_spread, n_spread, .inl f_spread)), (q_widest, .inl (c_widest, n_widest, .inl f_widest)), (q_shades, .inr (6, [.ref q_shades_tint, .ref q_shades_many, .ref r_shades_rank, .ref q_shades_keys, .int f_shades_size, .int f_shades_stale])), (q_shades_tint, .inl (c_shades_tint, n_shades_tint, .inl f_shades_tint)), (q_shades_many, .inl (c_shades_many, n_shades_many, .inl f_shades_many)), (q_shades_keys, .inl (c_shades_keys, n_shades_keys, .inr (.inl f_shades_keys)))]
set_option maxHeartbeats 4000000 in
set_option maxRecDepth 100000 in
theorem metBx_cut (l : Launch) (dC : Nat → ClassId) (dI : Nat → Nat → Nat) (q_this q_row q_start q_end q_weight q_spread q_widest q_shades q_shades_tint q_shades_many q_shades_keys r_shades_rank : Nat) (c_row c_start c_end c_weight c_spread c_widest c_shades_tint c_shades_many c_shades_keys : ClassId) (n_row n_start n_end n_weight n_spread n_widest n_shades_tint n_shades_many n_shades_keys : Nat) (sz : Nat) (f_size : Int32) (f_row : Nat → Int32) (f_start : Nat → Int32) (f_end : Nat → Int32) (f_weight : Nat → Int32) (f_spread : Nat → Int32) (f_widest : Nat → Int32) (f_shades_size : Int32) (f_shades_stale : Int32) (f_shades_tint : Nat → Int32) (f_shades_many : Nat → Int32) (f_shades_keys : Nat → Int64) (x2 : Int32) {post : Int32 → (Nat → Int32) → (Nat → Int32) → (Nat → Int32) → (Nat → Int32) → (Nat → Int32) → (Nat → Int32) → (Nat → Int64) → Prop} (hw : wpBx_cut n_row n_start n_end n_weight n_spread n_widest n_shades_tint n_shades_many n_shades_keys f_size f_row f_start f_end f_weight f_spread f_widest f_shades_size f_shades_stale f_shades_tint f_shades_many f_shades_keys x2 post) : Met l yBx_cut (.code yBx_cut bBx_cut 7 none :: BIG) ({ frames := 3, cells := 0, slots := 0, locals := 77 }) (va_Pc [.ref q_this, .ref q_shades, .int x2] (gx_pre (dC, dI) vwCl (wdBx_cut q_this q_row q_start q_end q_weight q_spread q_widest q_shades q_shades_tint q_shades_many q_shades_keys r_shades_rank c_row c_start c_end c_weight c_spread c_widest c_shades_tint c_shades_many c_shades_keys n_row n_start n_end n_weight n_spread n_widest n_shades_tint n_shades_many n_shades_keys f_size f_row f_start f_end f_weight f_spread f_widest f_shades_size f_shades_stale f_shades_tint f_shades_many f_shades_keys) [(c_row, .int), (c_start, .int), (c_end, .int), (c_weight, .int), (c_spread, .int), (c_widest, .int), (c_shades_tint, .int), (c_shades_many, .int), (c_shades_keys, .long)] sz)) (va_Qv (fun (u : Int32 × (Nat → Int32) × (Nat → Int32) × (Nat → Int32) × (Nat → Int32) × (Nat → Int32) × (Nat → Int32) × (Nat → Int64)) => post u.1 u.2.1 u.2.2.1 u.2.2.2.1 u.2.2.2.2.1 u.2.2.2.2.2.1 u.2.2.2.2.2.2.1 u.2.2.2.2.2.2.2) (gx_B (dC, dI) vwCl (va_A (wdBx_cut q_this q_row q_start q_end q_weight q_spread q_widest q_shades q_shades_tint q_shades_many q_shades_keys r_shades_rank c_row c_start c_end c_weight c_spread c_widest c_shades_tint c_shades_many c_shades_keys n_row n_start n_end n_weight n_spread n_widest n_shades_tint n_shades_many n_shades_keys f_size f_row f_start f_end f_weight f_spread f_widest f_shades_size f_shades_stale f_shades_tint f_shades_many f_shades_keys) sz) (fun (u : Int32 × (Nat → Int32) × (Nat → Int32) × (Nat → Int32) × (Nat → Int32) × (Nat → Int32) × (Nat → Int32) × (Nat → Int64)) => (wdBx_cut q_this q_row q_start q_end q_weight q_spread q_widest q_shades q_shades_tint q_shades_many q_shades_keys r_shades_rank c_row c_start c_end c_weight c_spread c_widest c_shades_tint c_shades_many c_shades_keys n_row n_start n_end n_weight n_spread n_widest n_shades_tint n_shades_many n_shades_keys u.1 u.2.1 u.2.2.1 u.2.2.2.1 u.2.2.2.2.1 u.2.2.2.2.2.1 u.2.2.2.2.2.2.1 f_shades_size f_shades_stale f_shades_tint f_shades_many u.2.2.2.2.2.2.2))) (va_A (wdBx_cut q_this q_row q_start q_end q_weight q_spread q_widest q_shades q_shades_tint q_shades_many q_shades_keys r_shades_rank c_row c_start c_end c_weight c_spread c_widest c_shades_tint c_shades_many c_shades_keys n_row n_start n_end n_weight n_spread n_widest n_shades_tint n_shades_many n_shades_keys f_size f_row f_start f_end f_weight f_spread f_widest f_shades_size f_shades_stale f_shades_tint f_shades_many f_shades_keys) sz)) 0 0 (va_A (wdBx_cut q_this q_row q_start q_end q_weight q_spread q_widest q_shades q_shades_tint q_shades_many q_shades_keys r_shades_rank c_row c_start c_end c_weight c_spread c_widest c_shades_tint c_shades_many c_shades_keys n_row n_start n_end n_weight n_spread n_widest n_shades_tint n_shades_many n_shades_keys f_size f_row f_start f_end f_weight f_spread f_widest f_shades_size f_shades_stale f_shades_tint f_shades_many f_shades_keys) sz) := by
  refine Met.ofW (cc := bBx_cut) (maxL := 7) (ret := none) (by decide) rfl ?_
  intro p e s m args below meth c s₁ B hml hv
  obtain ⟨rfl, hsz, hP, hK, hD0, hZ⟩ := hv
  have hx := B.exec
  have hb := B.bytes
  have hr := B.returns
  have hts := atoms_spec (ws := (.code yBx_cut bBx_cut 7 none :: BIG)) B.pre
  have hB : ∀ w ∈ BIG, w.before _ s = true := fun w h => hts w (List.mem_cons_of_mem _ h)
  have hown : s.vm.findClass RBx = some m.cls := findClass_of_methodNamed B.named
  have hlocks := B.notSynchronized
  subst hsz
  have hD := hD0.self (sz := s.heap.size)
  generalize hAe : va_A (wdBx_cut q_this q_row q_start q_end q_weight q_spread q_widest q_shades q_shades_tint q_shades_many q_shades_keys r_shades_rank c_row c_start c_end c_weight c_spread c_widest c_shades_tint c_shades_many c_shades_keys n_row n_start n_end n_weight n_spread n_widest n_shades_tint n_shades_many n_shades_keys f_size f_row f_start f_end f_weight f_spread f_widest f_shades_size f_shades_stale f_shades_tint f_shades_many f_shades_keys) s.heap.size = A at hD hZ ⊢
  have hA : ∀ q : Nat, s.heap.size ≤ q → A q := fun q h => by rw [← hAe]; exact Or.inr h
  have hS : va_S A s.heap s.heap [] := va_S.rf
  have hl := lv_entry ([.ref q_this, .ref q_shades, .int x2]) (n := 7) (Nat.le_of_ble_eq_true rfl)
  rw [lg_entry_eq]
  generalize (lg_sl ([.ref q_this, .ref q_shades, .int x2]) ++ List.replicate (7 - (lg_sl ([.ref q_this, .ref q_shades, .int x2])).length) Slot.unset).toArray = ls at hl ⊢
  have hl : lv_has ls 7 [(0, .ref q_this), (1, .ref q_shades), (2, .int x2)] := hl
  have hL9 := (hB _ bw118)
  have hL15 := (hB _ bw119)
  have hL27 := (hB _ bw117)
  have hL30 := (hB _ bw123)
  have hL34 := (hB _ bw98)
  refine gx_abs (fun G eG => ?_)
  obtain ⟨K2, eK2⟩ : ∃ K : Int32 → Int32 → (Nat → Int32) → (Nat → Int32) → (Nat → Int32) → (Nat → Int32) → (Nat → Int32) → (Nat → Int32) → (Nat → Int64) → Prop, K = fun v3 f_size f_row f_start f_end f_weight f_spread f_widest f_shades_keys => ∀ (H : Heap) (locs : List Loc) (ls : Array Slot), va_P (dC, dI) vwCl (wdBx_cut q_this q_row q_start q_end q_weight q_spread q_widest q_shades q_shades_tint q_shades_many q_shades_keys r_shades_rank c_row c_start c_end c_weight c_spread c_widest c_shades_tint c_shades_many c_shades_keys n_row n_start n_end n_weight n_spread n_widest n_shades_tint n_shades_many n_shades_keys f_size f_row f_start f_end f_weight f_spread f_widest f_shades_size f_shades_stale f_shades_tint f_shades_many f_shades_keys) H → va_D A (wdBx_cut q_this q_row q_start q_end q_weight q_spread q_widest q_shades q_shades_tint q_shades_many q_shades_keys r_shades_rank c_row c_start c_end c_weight c_spread c_widest c_shades_tint c_shades_many c_shades_keys n_row n_start n_end n_weight n_spread n_widest n_shades_tint n_shades_many n_shades_keys f_size f_row f_start f_end f_weight f_spread f_widest f_shades_size f_shades_stale f_shades_tint f_shades_many f_shades_keys) → va_S A s.heap H locs → lv_has ls 7 [(0, .ref q_this), (1, .ref q_shades), (2, .int x2), (3, .int v3)] → G H locs 0 0 (F0 m 2 ls []) := ⟨_, rfl⟩
  obtain ⟨K41, eK41⟩ : ∃ K : Int32 → Int32 → (Nat → Int32) → (Nat → Int32) → (Nat → Int32) → (Nat → Int32) → (Nat → Int32) → (Nat → Int32) → (Nat → Int64) → Prop, K = fun v3 f_size f_row f_start f_end f_weight f_spread f_widest f_shades_keys => ∀ (H : Heap) (locs : List Loc) (ls : Array Slot), va_P (dC, dI) vwCl (wdBx_cut q_this q_row q_start q_end q_weight q_spread q_widest q_shades q_shades_tint q_shades_many q_shades_keys r_shades_rank c_row c_start c_end c_weight c_spread c_widest c_shades_tint c_shades_many c_shades_keys n_row n_start n_end n_weight n_spread n_widest n_shades_tint n_shades_many n_shades_keys f_size f_row f_start f_end f_weight f_spread f_widest f_shades_size f_shades_stale f_shades_tint f_shades_many f_shades_keys) H → va_D A (wdBx_cut q_this q_row q_start q_end q_weight q_spread q_widest q_shades q_shades_tint q_shades_many q_shades_keys r_shades_rank c_row c_start c_end c_weight c_spread c_widest c_shades_tint c_shades_many c_shades_keys n_row n_start n_end n_weight n_spread n_widest n_shades_tint n_shades_many n_shades_keys f_size f_row f_start f_end f_weight f_spread f_widest f_shades_size f_shades_stale f_shades_tint f_shades_many f_shades_keys) → va_S A s.heap H locs → lv_has ls 7 [(0, .ref q_this), (1, .ref q_shades), (2, .int x2), (3, .int v3)] → G H locs 0 0 (F0 m 41 ls []) := ⟨_, rfl⟩
  have j142 : ∀ (f_size : Int32) (f_row : Nat → Int32) (f_start : Nat → Int32) (f_end : Nat → Int32) (f_weight : Nat → Int32) (f_spread : Nat → Int32) (f_widest : Nat → Int32) (f_shades_keys : Nat → Int64), vcBx_cut_142 n_row n_start n_end n_weight n_spread n_widest n_shades_tint n_shades_many n_shades_keys f_shades_size f_shades_stale f_shades_tint f_shades_many x2 K2 K41 post f_size f_row f_start f_end f_weight f_spread f_widest f_shades_keys → ∀ (H : Heap) (locs : List Loc) (ls : Array Slot), va_P (dC, dI) vwCl (wdBx_cut q_this q_row q_start q_end q_weight q_spread q_widest q_shades q_shades_tint q_shades_many q_shades_keys r_shades_rank c_row c_start c_end c_weight c_spread c_widest c_shades_tint c_shades_many c_shades_keys n_row n_start n_end n_weight n_spread n_widest n_shades_tint n_shades_many n_shades_keys f_size f_row f_start f_end f_weight f_spread f_widest f_shades_size f_shades_stale f_shades_tint f_shades_many f_shades_keys) H → va_D A (wdBx_cut q_this q_row q_start q_end q_weight q_spread q_widest q_shades q_shades_tint q_shades_many q_shades_keys r_shades_rank c_row c_start c_end c_weight c_spread c_widest c_shades_tint c_shades_many c_shades_keys n_row n_start n_end n_weight n_spread n_widest n_shades_tint n_shades_many n_shades_keys f_size f_row f_start f_end f_weight f_spread f_widest f_shades_size f_shades_stale f_shades_tint f_shades_many f_shades_keys) → va_S A s.heap H locs → lv_has ls 7 [] → G H locs 0 0 (F0 m 142 ls []) := by
    intro f_size f_row f_start f_end f_weight f_spread f_widest f_shades_keys hv H locs ls hP hD hS hl
    rw [eG]
    unfold vcBx_cut_142 at hv
    exact W.vret hx hb hr (fun t ht hW => ⟨⟨(f_size, f_row, f_start, f_end, f_weight, f_spread, f_widest, f_shades_keys), rfl, hv, by rw [ht]; exact hP, hD⟩, hS.F ht⟩) hS.2.2 dBx_cut_142
  rw [eG] at j142
  unfold wpBx_cut at hw
  have hv := hw K2 K41
  have hv := hv (by
    intro v3 f_size f_row f_start f_end f_weight f_spread f_widest f_shades_keys hv
    rw [eK2]
    intro H locs ls hP hD hS hl
    rw [eG]
    unfold vcBx_cut_2 at hv
    refine lv_iload_n hx hb dBx_cut_2 rfl (lv_at hl 3 rfl) ?_
    refine lv_aload_n hx hb dBx_cut_3 rfl (lv_at hl 1 rfl) ?_
    refine va_get (D := (dC, dI)) (ci := 6) (v := .int f_shades_size) (C := RSh) (T := TSh) (N := 6) hx hb hB hiSh hown hK hP 7 rfl rfl 4 (by decide) hL34 (fun _ h9 => h9) rfl dBx_cut_4 ?_
    refine lv_icmp_ge (tgt := 23) hx hb dBx_cut_7 (by decide) (fun c_1 => ?_) (fun c_1 => ?_)
    · have hv := hv.1 c_1
      refine lv_aload_n hx hb dBx_cut_23 rfl (lv_at hl 0 rfl) ?_
      refine lv_iconst (v := 1) hx hb dBx_cut_24 (by decide) ?_
      refine va_put (D := (dC, dI)) (ci := 0) (v := .int 1) (ty := .int) (C := RBx) (T := TBx) (N := 7) hx hb hB hiBx tBx tBx_ok nBx hown hK hP hD hS 0 rfl rfl 6 (by decide) hL30 (fun _ h9 => h9) rfl (by decide +kernel) rfl rfl (Nat.le_of_ble_eq_true rfl) dBx_cut_25 (fun H locs hP hD hS => ?_)
      have hP : va_P (dC, dI) vwCl (wdBx_cut q_this q_row q_start q_end q_weight q_spread q_widest q_shades q_shades_tint q_shades_many q_shades_keys r_shades_rank c_row c_start c_end c_weight c_spread c_widest c_shades_tint c_shades_many c_shades_keys n_row n_start n_end n_weight n_spread n_widest n_shades_tint n_shades_many n_shades_keys 1 f_row f_start f_end f_weight f_spread f_widest f_shades_size f_shades_stale f_shades_tint f_shades_many f_shades_keys) H := hP
      have hD : va_D A (wdBx_cut q_this q_row q_start q_end q_weight q_spread q_widest q_shades q_shades_tint q_shades_many q_shades_keys r_shades_rank c_row c_start c_end c_weight c_spread c_widest c_shades_tint c_shades_many c_shades_keys n_row n_start n_end n_weight n_spread n_widest n_shades_tint n_shades_many n_shades_keys 1 f_row f_start f_end f_weight f_spread f_widest f_shades_size f_shades_stale f_shades_tint f_shades_many f_shades_keys) := hD
      refine lv_aload_n hx hb dBx_cut_28 rfl (lv_at hl 0 rfl) ?_
      refine lv_iconst (v := 0) hx hb dBx_cut_29 (by decide) ?_
      refine lv_iconst (v := 0) hx hb dBx_cut_30 (by decide) ?_
      refine lv_aload_n hx hb dBx_cut_31 rfl (lv_at hl 1 rfl) ?_
      refine va_get (D := (dC, dI)) (ci := 6) (v := .int f_shades_size) (C := RSh) (T := TSh) (N := 6) hx hb hB hiSh hown hK hP 7 rfl rfl 4 (by decide) hL34 (fun _ h9 => h9) rfl dBx_cut_32 ?_
      refine lv_aload_n hx hb dBx_cut_35 rfl (lv_at hl 1 rfl) ?_
      have hFc := va_free (wc := (wdBx_measure q_this q_row q_start q_end q_weight q_spread q_widest q_shades q_shades_tint q_shades_many r_shades_rank q_shades_keys c_row c_start c_end c_weight c_spread c_widest c_shades_tint c_shades_many n_row n_start n_end n_weight n_spread n_widest n_shades_tint n_shades_many 1 f_row f_start f_end f_weight f_spread f_widest f_shades_size f_shades_stale f_shades_tint f_shades_many)) hD hS hA [0, 1, 2, 3, 4, 5, 6, 7, 8, 9] rfl
      refine gx_v (wr := [(q_shades_keys, .inl (c_shades_keys, n_shades_keys, .inr (.inl f_shades_keys)))]) (va_runV (As := [.int 0, .int 0, .int f_shades_size, .ref q_shades]) (rest := []) ⟨hx, hb, hml, hown, hB⟩ (metBx_measure l dC dI q_this q_row q_start q_end q_weight q_spread q_widest q_shades q_shades_tint q_shades_many r_shades_rank q_shades_keys c_row c_start c_end c_weight c_spread c_widest c_shades_tint c_shades_many n_row n_start n_end n_weight n_spread n_widest n_shades_tint n_shades_many H.size 1 f_row f_start f_end f_weight f_spread f_widest f_shades_size f_shades_stale f_shades_tint f_shades_many 0 0 f_shades_size hv) (cwV 4 hB (gx_gV bw402 bw403 bw7 bw47 bw404) rfl rfl rfl (by decide +kernel) ⟨(Nat.le_of_ble_eq_true rfl), (Nat.le_of_ble_eq_true rfl)⟩) (gx_preV (ci := 0) (hP.sub (ws' := (wdBx_measure q_this q_row q_start q_end q_weight q_spread q_widest q_shades q_shades_tint q_shades_many r_shades_rank q_shades_keys c_row c_start c_end c_weight c_spread c_widest c_shades_tint c_shades_many n_row n_start n_end n_weight n_spread n_widest n_shades_tint n_shades_many 1 f_row f_start f_end f_weight f_spread f_widest f_shades_size f_shades_stale f_shades_tint f_shades_many)) [0, 1, 2, 3, 4, 5, 6, 7, 8, 9] rfl) (hK.sub (tys' := [(c_row, .int), (c_start, .int), (c_end, .int), (c_weight, .int), (c_spread, .int), (c_widest, .int), (c_shades_tint, .int), (c_shades_many, .int)]) [0, 1, 2, 3, 4, 5, 6, 7] rfl) (hD.sub (ws' := (wdBx_measure q_this q_row q_start q_end q_weight q_spread q_widest q_shades q_shades_tint q_shades_many r_shades_rank q_shades_keys c_row c_start c_end c_weight c_spread c_widest c_shades_tint c_shades_many n_row n_start n_end n_weight n_spread n_widest n_shades_tint n_shades_many 1 f_row f_start f_end f_weight f_spread f_widest f_shades_size f_shades_stale f_shades_tint f_shades_many)) [0, 1, 2, 3, 4, 5, 6, 7, 8, 9] (by decide) rfl) hZ hS hFc rfl rfl) rfl rfl hl.1 rfl (lv_room (Nat.le_of_ble_eq_true rfl)) dBx_cut_36 ⟨(Nat.le_of_ble_eq_true rfl), (Nat.le_of_ble_eq_true rfl)⟩) hP hD hS hFc [0, 1, 2, 3, 4, 5, 6, 7, 8, 9] [10] rfl rfl (by decide) (by decide) (fun u_7 H locs hv hP hD hS => ?_)
      obtain ⟨f_start_2, f_end_3, f_weight_4, f_spread_5, f_widest_6⟩ := u_7
      have hP : va_P (dC, dI) vwCl (wdBx_cut q_this q_row q_start q_end q_weight q_spread q_widest q_shades q_shades_tint q_shades_many q_shades_keys r_shades_rank c_row c_start c_end c_weight c_spread c_widest c_shades_tint c_shades_many c_shades_keys n_row n_start n_end n_weight n_spread n_widest n_shades_tint n_shades_many n_shades_keys 1 f_row f_start_2 f_end_3 f_weight_4 f_spread_5 f_widest_6 f_shades_size f_shades_stale f_shades_tint f_shades_many f_shades_keys) H := hP.sub [1, 2, 3, 4, 5, 6, 7, 8, 9, 10, 0] rfl
      have hD : va_D A (wdBx_cut q_this q_row q_start q_end q_weight q_spread q_widest q_shades q_shades_tint q_shades_many q_shades_keys r_shades_rank c_row c_start c_end c_weight c_spread c_widest c_shades_tint c_shades_many c_shades_keys n_row n_start n_end n_weight n_spread n_widest n_shades_tint n_shades_many n_shades_keys 1 f_row f_start_2 f_end_3 f_weight_4 f_spread_5 f_widest_6 f_shades_size f_shades_stale f_shades_tint f_shades_many f_shades_keys) := hD.sub [1, 2, 3, 4, 5, 6, 7, 8, 9, 10, 0] (by decide) rfl
      refine lv_iconst (v := 1) hx hb dBx_cut_39 (by decide) ?_
      refine lv_istore_n (lv' := [(3, .int 1), (0, .ref q_this), (1, .ref q_shades), (2, .int x2)]) hx hb dBx_cut_40 rfl hl (by decide) rfl (fun ls hl => ?_)
      rw [eK41, eG] at hv
      exact hv _ _ _ hP hD hS (lv_sub hl [1, 2, 3, 0] rfl)
    · have hv := hv.2 c_1
      refine lv_aload_n hx hb dBx_cut_10 rfl (lv_at hl 0 rfl) ?_
      refine va_get (D := (dC, dI)) (ci := 0) (v := .ref q_row) (C := RBx) (T := TBx) (N := 7) hx hb hB hiBx hown hK hP 0 rfl rfl 0 (by decide) hL27 (fun _ h9 => h9) rfl dBx_cut_11 ?_
      refine lv_iload_n hx hb dBx_cut_14 rfl (lv_at hl 3 rfl) ?_
      refine lv_iload_n hx hb dBx_cut_15 rfl (lv_at hl 3 rfl) ?_
      obtain ⟨h_8, hv⟩ := hv
      refine va_iast hx hb hK hP hD hS 1 0 rfl rfl h_8 dBx_cut_16 (fun H locs hP hD hS => ?_)
      have hP : va_P (dC, dI) vwCl (wdBx_cut q_this q_row q_start q_end q_weight q_spread q_widest q_shades q_shades_tint q_shades_many q_shades_keys r_shades_rank c_row c_start c_end c_weight c_spread c_widest c_shades_tint c_shades_many c_shades_keys n_row n_start n_end n_weight n_spread n_widest n_shades_tint n_shades_many n_shades_keys f_size (upd f_row v3.toNatClampNeg v3) f_start f_end f_weight f_spread f_widest f_shades_size f_shades_stale f_shades_tint f_shades_many f_shades_keys) H := hP
      have hD : va_D A (wdBx_cut q_this q_row q_start q_end q_weight q_spread q_widest q_shades q_shades_tint q_shades_many q_shades_keys r_shades_rank c_row c_start c_end c_weight c_spread c_widest c_shades_tint c_shades_many c_shades_keys n_row n_start n_end n_weight n_spread n_widest n_shades_tint n_shades_many n_shades_keys f_size (upd f_row v3.toNatClampNeg v3) f_start f_end f_weight f_spread f_widest f_shades_size f_shades_stale f_shades_tint f_shades_many f_shades_keys) := hD
      refine lv_iinc (v := v3 + 1) (lv' := [(3, .int (v3 + 1)), (0, .ref q_this), (1, .ref q_shades), (2, .int x2)]) hx hb dBx_cut_17 hl (k := 3) rfl rfl (by decide) rfl (fun ls hl => ?_)
      refine lv_goto (tgt := 2) hx hb dBx_cut_20 (by decide) ?_
      rw [eK2, eG] at hv
      exact hv _ _ _ hP hD hS (lv_sub hl [1, 2, 3, 0] rfl))
  have hv := hv (by
    intro v3 f_size f_row f_start f_end f_weight f_spread f_widest f_shades_keys hv
    rw [eK41]
    intro H locs ls hP hD hS hl
    rw [eG]
    unfold vcBx_cut_41 at hv
    refine lv_iload_n hx hb dBx_cut_41 rfl (lv_at hl 3 rfl) ?_
    refine lv_iload_n hx hb dBx_cut_42 rfl (lv_at hl 2 rfl) ?_
    refine lv_icmp_ge (tgt := 142) hx hb dBx_cut_43 (by decide) (fun c_10 => ?_) (fun c_10 => ?_)
    · have hv := hv.1 c_10
      exact j142 f_size f_row f_start f_end f_weight f_spread f_widest f_shades_keys hv _ _ _ hP hD hS (lv_sub hl [] rfl)
    · have hv := hv.2 c_10
      refine lv_iload_n hx hb dBx_cut_46 rfl (lv_at hl 3 rfl) ?_
      refine lv_bipush (v := 64) hx hb dBx_cut_47 (by decide) ?_
      refine lv_icmp_ge (tgt := 142) hx hb dBx_cut_49 (by decide) (fun c_11 => ?_) (fun c_11 => ?_)
      · have hv := hv.1 c_11
        exact j142 f_size f_row f_start f_end f_weight f_spread f_widest f_shades_keys hv _ _ _ hP hD hS (lv_sub hl [] rfl)
      · have hv := hv.2 c_11
        refine lv_aload_n hx hb dBx_cut_52 rfl (lv_at hl 0 rfl) ?_
        refine gx_ri (va_runV (As := []) (rest := []) ⟨hx, hb, hml, hown, hB⟩ (metBx_nextToCut l dC dI q_this q_weight q_spread q_row q_start q_end q_widest c_weight c_spread n_weight n_spread H.size f_size f_weight f_spread hv) (cwV 0 hB (gx_gV bw410 bw411 bw9 bw47 bw412) rfl rfl rfl (by decide +kernel) ⟨(Nat.le_of_ble_eq_true rfl), (Nat.le_of_ble_eq_true rfl)⟩) (gx_rpreV (ci := 0) (hP.sub (ws' := (wdBx_nextToCut q_this q_weight q_spread q_row q_start q_end q_widest c_weight c_spread n_weight n_spread f_size f_weight f_spread)) [0, 4, 5] rfl) (hK.sub (tys' := [(c_weight, .int), (c_spread, .int)]) [3, 4] rfl) hZ hS hA rfl rfl) rfl rfl hl.1 rfl (lv_room (Nat.le_of_ble_eq_true rfl)) dBx_cut_53 ⟨(Nat.le_of_ble_eq_true rfl), (Nat.le_of_ble_eq_true rfl)⟩) hP hS hA (fun r_12 H locs hv hP hS => ?_)
        refine lv_istore (lv' := [(4, .int r_12), (0, .ref q_this), (1, .ref q_shades), (2, .int x2), (3, .int v3)]) hx hb dBx_cut_56 hl (by decide) rfl (fun ls hl => ?_)
        refine lv_aload_n hx hb dBx_cut_58 rfl (lv_at hl 1 rfl) ?_
        refine va_get (D := (dC, dI)) (ci := 0) (v := .ref q_end) (C := RBx) (T := TBx) (N := 7) hx hb hB hiBx hown hK hP 0 rfl rfl 2 (by decide) hL15 (fun _ h9 => h9) rfl dBx_cut_59 ?_
        refine lv_iload hx hb dBx_cut_62 (lv_at hl 0 rfl) ?_
        obtain ⟨h_14, hv⟩ := hv
        refine va_iald hx hb hK hP 3 2 rfl rfl h_14 dBx_cut_64 ?_
        refine lv_aload_n hx hb dBx_cut_65 rfl (lv_at hl 1 rfl) ?_
        refine va_get (D := (dC, dI)) (ci := 0) (v := .ref q_start) (C := RBx) (T := TBx) (N := 7) hx hb hB hiBx hown hK hP 0 rfl rfl 1 (by decide) hL9 (fun _ h9 => h9) rfl dBx_cut_66 ?_
        refine lv_iload hx hb dBx_cut_69 (lv_at hl 0 rfl) ?_
        obtain ⟨h_15, hv⟩ := hv
        refine va_iald hx hb hK hP 2 1 rfl rfl h_15 dBx_cut_71 ?_
        refine lv_isub hx hb dBx_cut_72 ?_
        refine lv_iconst (v := 2) hx hb dBx_cut_73 (by decide) ?_
        refine lv_icmp_ge (tgt := 78) hx hb dBx_cut_74 (by decide) (fun c_16 => ?_) (fun c_16 => ?_)
        · have hv := hv.1 c_16
          refine lv_aload_n hx hb dBx_cut_78 rfl (lv_at hl 1 rfl) ?_
          refine lv_iload hx hb dBx_cut_79 (lv_at hl 0 rfl) ?_
          refine lv_aload_n hx hb dBx_cut_81 rfl (lv_at hl 2 rfl) ?_
          have hFc := va_free (wc := (wdBx_sortAlongWidest q_this q_row q_start q_end q_widest q_shades q_shades_tint q_shades_keys q_weight q_spread q_shades_many r_shades_rank c_row c_start c_end c_widest c_shades_tint c_shades_keys n_row n_start n_end n_widest n_shades_tint n_shades_keys f_size f_row f_start f_end f_widest f_shades_size f_shades_stale f_shades_tint f_shades_keys)) hD hS hA [0, 1, 2, 3, 6, 7, 8, 10] rfl
          refine gx_v (wr := [(q_weight, .inl (c_weight, n_weight, .inl f_weight)), (q_spread, .inl (c_spread, n_spread, .inl f_spread)), (q_shades_many, .inl (c_shades_many, n_shades_many, .inl f_shades_many))]) (va_runV (As := [.int r_12, .ref q_shades]) (rest := []) ⟨hx, hb, hml, hown, hB⟩ (metBx_sortAlongWidest l dC dI q_this q_row q_start q_end q_widest q_shades q_shades_tint q_shades_keys q_weight q_spread q_shades_many r_shades_rank c_row c_start c_end c_widest c_shades_tint c_shades_keys n_row n_start n_end n_widest n_shades_tint n_shades_keys H.size f_size f_row f_start f_end f_widest f_shades_size f_shades_stale f_shades_tint f_shades_keys r_12 hv) (cwV 2 hB (gx_gV bw413 bw414 bw10 bw47 bw415) rfl rfl rfl (by decide +kernel) ⟨(Nat.le_of_ble_eq_true rfl), (Nat.le_of_ble_eq_true rfl)⟩) (gx_preV (ci := 0) (hP.sub (ws' := (wdBx_sortAlongWidest q_this q_row q_start q_end q_widest q_shades q_shades_tint q_shades_keys q_weight q_spread q_shades_many r_shades_rank c_row c_start c_end c_widest c_shades_tint c_shades_keys n_row n_start n_end n_widest n_shades_tint n_shades_keys f_size f_row f_start f_end f_widest f_shades_size f_shades_stale f_shades_tint f_shades_keys)) [0, 1, 2, 3, 6, 7, 8, 10] rfl) (hK.sub (tys' := [(c_row, .int), (c_start, .int), (c_end, .int), (c_widest, .int), (c_shades_tint, .int), (c_shades_keys, .long)]) [0, 1, 2, 5, 6, 8] rfl) (hD.sub (ws' := (wdBx_sortAlongWidest q_this q_row q_start q_end q_widest q_shades q_shades_tint q_shades_keys q_weight q_spread q_shades_many r_shades_rank c_row c_start c_end c_widest c_shades_tint c_shades_keys n_row n_start n_end n_widest n_shades_tint n_shades_keys f_size f_row f_start f_end f_widest f_shades_size f_shades_stale f_shades_tint f_shades_keys)) [0, 1, 2, 3, 6, 7, 8, 10] (by decide) rfl) hZ hS hFc rfl rfl) rfl rfl hl.1 rfl (lv_room (Nat.le_of_ble_eq_true rfl)) dBx_cut_82 ⟨(Nat.le_of_ble_eq_true rfl), (Nat.le_of_ble_eq_true rfl)⟩) hP hD hS hFc [0, 1, 2, 3, 6, 7, 8, 10] [4, 5, 9] rfl rfl (by decide) (by decide) (fun u_19 H locs hv hP hD hS => ?_)
          obtain ⟨f_row_17, f_shades_keys_18⟩ := u_19
          have hP : va_P (dC, dI) vwCl (wdBx_cut q_this q_row q_start q_end q_weight q_spread q_widest q_shades q_shades_tint q_shades_many q_shades_keys r_shades_rank c_row c_start c_end c_weight c_spread c_widest c_shades_tint c_shades_many c_shades_keys n_row n_start n_end n_weight n_spread n_widest n_shades_tint n_shades_many n_shades_keys f_size f_row_17 f_start f_end f_weight f_spread f_widest f_shades_size f_shades_stale f_shades_tint f_shades_many f_shades_keys_18) H := hP.sub [3, 4, 5, 6, 0, 1, 7, 8, 9, 2, 10] rfl
          have hD : va_D A (wdBx_cut q_this q_row q_start q_end q_weight q_spread q_widest q_shades q_shades_tint q_shades_many q_shades_keys r_shades_rank c_row c_start c_end c_weight c_spread c_widest c_shades_tint c_shades_many c_shades_keys n_row n_start n_end n_weight n_spread n_widest n_shades_tint n_shades_many n_shades_keys f_size f_row_17 f_start f_end f_weight f_spread f_widest f_shades_size f_shades_stale f_shades_tint f_shades_many f_shades_keys_18) := hD.sub [3, 4, 5, 6, 0, 1, 7, 8, 9, 2, 10] (by decide) rfl
          refine lv_aload_n hx hb dBx_cut_85 rfl (lv_at hl 1 rfl) ?_
          refine lv_iload hx hb dBx_cut_86 (lv_at hl 0 rfl) ?_
          refine lv_aload_n hx hb dBx_cut_88 rfl (lv_at hl 2 rfl) ?_
          refine gx_ri (va_runV (As := [.int r_12, .ref q_shades]) (rest := []) ⟨hx, hb, hml, hown, hB⟩ (metBx_cutPlace l dC dI q_this q_row q_start q_end q_weight q_shades q_shades_many q_spread q_widest q_shades_tint r_shades_rank q_shades_keys c_row c_start c_end c_weight c_shades_many n_row n_start n_end n_weight n_shades_many H.size f_size f_row_17 f_start f_end f_weight f_shades_size f_shades_stale f_shades_many r_12 hv) (cwV 2 hB (gx_gV bw417 bw418 bw11 bw47 bw419) rfl rfl rfl (by decide +kernel) ⟨(Nat.le_of_ble_eq_true rfl), (Nat.le_of_ble_eq_true rfl)⟩) (gx_rpreV (ci := 0) (hP.sub (ws' := (wdBx_cutPlace q_this q_row q_start q_end q_weight q_shades q_shades_many q_spread q_widest q_shades_tint r_shades_rank q_shades_keys c_row c_start c_end c_weight c_shades_many n_row n_start n_end n_weight n_shades_many f_size f_row_17 f_start f_end f_weight f_shades_size f_shades_stale f_shades_many)) [0, 1, 2, 3, 4, 7, 9] rfl) (hK.sub (tys' := [(c_row, .int), (c_start, .int), (c_end, .int), (c_weight, .int), (c_shades_many, .int)]) [0, 1, 2, 3, 7] rfl) hZ hS hA rfl rfl) rfl rfl hl.1 rfl (lv_room (Nat.le_of_ble_eq_true rfl)) dBx_cut_89 ⟨(Nat.le_of_ble_eq_true rfl), (Nat.le_of_ble_eq_true rfl)⟩) hP hS hA (fun r_20 H locs hv hP hS => ?_)
          refine lv_istore (lv' := [(5, .int r_20), (4, .int r_12), (0, .ref q_this), (1, .ref q_shades), (2, .int x2), (3, .int v3)]) hx hb dBx_cut_92 hl (by decide) rfl (fun ls hl => ?_)
          refine lv_aload_n hx hb dBx_cut_94 rfl (lv_at hl 2 rfl) ?_
          refine va_get (D := (dC, dI)) (ci := 0) (v := .ref q_end) (C := RBx) (T := TBx) (N := 7) hx hb hB hiBx hown hK hP 0 rfl rfl 2 (by decide) hL15 (fun _ h9 => h9) rfl dBx_cut_95 ?_
          refine lv_iload hx hb dBx_cut_98 (lv_at hl 1 rfl) ?_
          obtain ⟨h_22, hv⟩ := hv
          refine va_iald hx hb hK hP 3 2 rfl rfl h_22 dBx_cut_100 ?_
          refine lv_topi (fun v6_23 ev6_23 => ?_)
          have hv := hv v6_23 ev6_23
          refine lv_istore (lv' := [(6, .int v6_23), (5, .int r_20), (4, .int r_12), (0, .ref q_this), (1, .ref q_shades), (2, .int x2), (3, .int v3)]) hx hb dBx_cut_101 hl (by decide) rfl (fun ls hl => ?_)
          refine lv_aload_n hx hb dBx_cut_103 rfl (lv_at hl 3 rfl) ?_
          refine lv_iload_n hx hb dBx_cut_104 rfl (lv_at hl 6 rfl) ?_
          refine lv_iconst (v := 1) hx hb dBx_cut_105 (by decide) ?_
          refine lv_iadd hx hb dBx_cut_106 ?_
          refine lv_topi (fun w_24 ew_24 => ?_)
          have hv := hv w_24 ew_24
          refine va_put (D := (dC, dI)) (ci := 0) (v := .int w_24) (ty := .int) (C := RBx) (T := TBx) (N := 7) hx hb hB hiBx tBx tBx_ok nBx hown hK hP hD hS 0 rfl rfl 6 (by decide) hL30 (fun _ h9 => h9) rfl (by decide +kernel) rfl rfl (Nat.le_of_ble_eq_true rfl) dBx_cut_107 (fun H locs hP hD hS => ?_)
          have hP : va_P (dC, dI) vwCl (wdBx_cut q_this q_row q_start q_end q_weight q_spread q_widest q_shades q_shades_tint q_shades_many q_shades_keys r_shades_rank c_row c_start c_end c_weight c_spread c_widest c_shades_tint c_shades_many c_shades_keys n_row n_start n_end n_weight n_spread n_widest n_shades_tint n_shades_many n_shades_keys w_24 f_row_17 f_start f_end f_weight f_spread f_widest f_shades_size f_shades_stale f_shades_tint f_shades_many f_shades_keys_18) H := hP
          have hD : va_D A (wdBx_cut q_this q_row q_start q_end q_weight q_spread q_widest q_shades q_shades_tint q_shades_many q_shades_keys r_shades_rank c_row c_start c_end c_weight c_spread c_widest c_shades_tint c_shades_many c_shades_keys n_row n_start n_end n_weight n_spread n_widest n_shades_tint n_shades_many n_shades_keys w_24 f_row_17 f_start f_end f_weight f_spread f_widest f_shades_size f_shades_stale f_shades_tint f_shades_many f_shades_keys_18) := hD
          refine lv_aload_n hx hb dBx_cut_110 rfl (lv_at hl 3 rfl) ?_
          refine lv_iload hx hb dBx_cut_111 (lv_at hl 2 rfl) ?_
          refine lv_aload_n hx hb dBx_cut_113 rfl (lv_at hl 3 rfl) ?_
          refine va_get (D := (dC, dI)) (ci := 0) (v := .ref q_start) (C := RBx) (T := TBx) (N := 7) hx hb hB hiBx hown hK hP 0 rfl rfl 1 (by decide) hL9 (fun _ h9 => h9) rfl dBx_cut_114 ?_
          refine lv_iload hx hb dBx_cut_117 (lv_at hl 2 rfl) ?_
          obtain ⟨h_25, hv⟩ := hv
          refine va_iald hx hb hK hP 2 1 rfl rfl h_25 dBx_cut_119 ?_
          refine lv_iload hx hb dBx_cut_120 (lv_at hl 1 rfl) ?_
          refine lv_aload_n hx hb dBx_cut_122 rfl (lv_at hl 4 rfl) ?_
          have hFc := va_free (wc := (wdBx_measure q_this q_row q_start q_end q_weight q_spread q_widest q_shades q_shades_tint q_shades_many r_shades_rank q_shades_keys c_row c_start c_end c_weight c_spread c_widest c_shades_tint c_shades_many n_row n_start n_end n_weight n_spread n_widest n_shades_tint n_shades_many w_24 f_row_17 f_start f_end f_weight f_spread f_widest f_shades_size f_shades_stale f_shades_tint f_shades_many)) hD hS hA [0, 1, 2, 3, 4, 5, 6, 7, 8, 9] rfl
          refine gx_v (wr := [(q_shades_keys, .inl (c_shades_keys, n_shades_keys, .inr (.inl f_shades_keys_18)))]) (va_runV (As := [.int r_12, .int (f_start r_12.toNatClampNeg), .int r_20, .ref q_shades]) (rest := []) ⟨hx, hb, hml, hown, hB⟩ (metBx_measure l dC dI q_this q_row q_start q_end q_weight q_spread q_widest q_shades q_shades_tint q_shades_many r_shades_rank q_shades_keys c_row c_start c_end c_weight c_spread c_widest c_shades_tint c_shades_many n_row n_start n_end n_weight n_spread n_widest n_shades_tint n_shades_many H.size w_24 f_row_17 f_start f_end f_weight f_spread f_widest f_shades_size f_shades_stale f_shades_tint f_shades_many r_12 (f_start r_12.toNatClampNeg) r_20 hv) (cwV 4 hB (gx_gV bw402 bw403 bw7 bw47 bw404) rfl rfl rfl (by decide +kernel) ⟨(Nat.le_of_ble_eq_true rfl), (Nat.le_of_ble_eq_true rfl)⟩) (gx_preV (ci := 0) (hP.sub (ws' := (wdBx_measure q_this q_row q_start q_end q_weight q_spread q_widest q_shades q_shades_tint q_shades_many r_shades_rank q_shades_keys c_row c_start c_end c_weight c_spread c_widest c_shades_tint c_shades_many n_row n_start n_end n_weight n_spread n_widest n_shades_tint n_shades_many w_24 f_row_17 f_start f_end f_weight f_spread f_widest f_shades_size f_shades_stale f_shades_tint f_shades_many)) [0, 1, 2, 3, 4, 5, 6, 7, 8, 9] rfl) (hK.sub (tys' := [(c_row, .int), (c_start, .int), (c_end, .int), (c_weight, .int), (c_spread, .int), (c_widest, .int), (c_shades_tint, .int), (c_shades_many, .int)]) [0, 1, 2, 3, 4, 5, 6, 7] rfl) (hD.sub (ws' := (wdBx_measure q_this q_row q_start q_end q_weight q_spread q_widest q_shades q_shades_tint q_shades_many r_shades_rank q_shades_keys c_row c_start c_end c_weight c_spread c_widest c_shades_tint c_shades_many n_row n_start n_end n_weight n_spread n_widest n_shades_tint n_shades_many w_24 f_row_17 f_start f_end f_weight f_spread f_widest f_shades_size f_shades_stale f_shades_tint f_shades_many)) [0, 1, 2, 3, 4, 5, 6, 7, 8, 9] (by decide) rfl) hZ hS hFc rfl rfl) rfl rfl hl.1 rfl (lv_room (Nat.le_of_ble_eq_true rfl)) dBx_cut_123 ⟨(Nat.le_of_ble_eq_true rfl), (Nat.le_of_ble_eq_true rfl)⟩) hP hD hS hFc [0, 1, 2, 3, 4, 5, 6, 7, 8, 9] [10] rfl rfl (by decide) (by decide) (fun u_31 H locs hv hP hD hS => ?_)
          obtain ⟨f_start_26, f_end_27, f_weight_28, f_spread_29, f_widest_30⟩ := u_31
          have hP : va_P (dC, dI) vwCl (wdBx_cut q_this q_row q_start q_end q_weight q_spread q_widest q_shades q_shades_tint q_shades_many q_shades_keys r_shades_rank c_row c_start c_end c_weight c_spread c_widest c_shades_tint c_shades_many c_shades_keys n_row n_start n_end n_weight n_spread n_widest n_shades_tint n_shades_many n_shades_keys w_24 f_row_17 f_start_26 f_end_27 f_weight_28 f_spread_29 f_widest_30 f_shades_size f_shades_stale f_shades_tint f_shades_many f_shades_keys_18) H := hP.sub [1, 2, 3, 4, 5, 6, 7, 8, 9, 10, 0] rfl
          have hD : va_D A (wdBx_cut q_this q_row q_start q_end q_weight q_spread q_widest q_shades q_shades_tint q_shades_many q_shades_keys r_shades_rank c_row c_start c_end c_weight c_spread c_widest c_shades_tint c_shades_many c_shades_keys n_row n_start n_end n_weight n_spread n_widest n_shades_tint n_shades_many n_shades_keys w_24 f_row_17 f_start_26 f_end_27 f_weight_28 f_spread_29 f_widest_30 f_shades_size f_shades_stale f_shades_tint f_shades_many f_shades_keys_18) := hD.sub [1, 2, 3, 4, 5, 6, 7, 8, 9, 10, 0] (by decide) rfl
          refine lv_aload_n hx hb dBx_cut_126 rfl (lv_at hl 3 rfl) ?_
          refine lv_iload_n hx hb dBx_cut_127 rfl (lv_at hl 6 rfl) ?_
          refine lv_iload hx hb dBx_cut_128 (lv_at hl 1 rfl) ?_
          refine lv_iload hx hb dBx_cut_130 (lv_at hl 0 rfl) ?_
          refine lv_aload_n hx hb dBx_cut_132 rfl (lv_at hl 4 rfl) ?_
          have hFc := va_free (wc := (wdBx_measure q_this q_row q_start q_end q_weight q_spread q_widest q_shades q_shades_tint q_shades_many r_shades_rank q_shades_keys c_row c_start c_end c_weight c_spread c_widest c_shades_tint c_shades_many n_row n_start n_end n_weight n_spread n_widest n_shades_tint n_shades_many w_24 f_row_17 f_start_26 f_end_27 f_weight_28 f_spread_29 f_widest_30 f_shades_size f_shades_stale f_shades_tint f_shades_many)) hD hS hA [0, 1, 2, 3, 4, 5, 6, 7, 8, 9] rfl
          refine gx_v (wr := [(q_shades_keys, .inl (c_shades_keys, n_shades_keys, .inr (.inl f_shades_keys_18)))]) (va_runV (As := [.int v3, .int r_20, .int v6_23, .ref q_shades]) (rest := []) ⟨hx, hb, hml, hown, hB⟩ (metBx_measure l dC dI q_this q_row q_start q_end q_weight q_spread q_widest q_shades q_shades_tint q_shades_many r_shades_rank q_shades_keys c_row c_start c_end c_weight c_spread c_widest c_shades_tint c_shades_many n_row n_start n_end n_weight n_spread n_widest n_shades_tint n_shades_many H.size w_24 f_row_17 f_start_26 f_end_27 f_weight_28 f_spread_29 f_widest_30 f_shades_size f_shades_stale f_shades_tint f_shades_many v3 r_20 v6_23 hv) (cwV 4 hB (gx_gV bw402 bw403 bw7 bw47 bw404) rfl rfl rfl (by decide +kernel) ⟨(Nat.le_of_ble_eq_true rfl), (Nat.le_of_ble_eq_true rfl)⟩) (gx_preV (ci := 0) (hP.sub (ws' := (wdBx_measure q_this q_row q_start q_end q_weight q_spread q_widest q_shades q_shades_tint q_shades_many r_shades_rank q_shades_keys c_row c_start c_end c_weight c_spread c_widest c_shades_tint c_shades_many n_row n_start n_end n_weight n_spread n_widest n_shades_tint n_shades_many w_24 f_row_17 f_start_26 f_end_27 f_weight_28 f_spread_29 f_widest_30 f_shades_size f_shades_stale f_shades_tint f_shades_many)) [0, 1, 2, 3, 4, 5, 6, 7, 8, 9] rfl) (hK.sub (tys' := [(c_row, .int), (c_start, .int), (c_end, .int), (c_weight, .int), (c_spread, .int), (c_widest, .int), (c_shades_tint, .int), (c_shades_many, .int)]) [0, 1, 2, 3, 4, 5, 6, 7] rfl) (hD.sub (ws' := (wdBx_measure q_this q_row q_start q_end q_weight q_spread q_widest q_shades q_shades_tint q_shades_many r_shades_rank q_shades_keys c_row c_start c_end c_weight c_spread c_widest c_shades_tint c_shades_many n_row n_start n_end n_weight n_spread n_widest n_shades_tint n_shades_many w_24 f_row_17 f_start_26 f_end_27 f_weight_28 f_spread_29 f_widest_30 f_shades_size f_shades_stale f_shades_tint f_shades_many)) [0, 1, 2, 3, 4, 5, 6, 7, 8, 9] (by decide) rfl) hZ hS hFc rfl rfl) rfl rfl hl.1 rfl (lv_room (Nat.le_of_ble_eq_true rfl)) dBx_cut_133 ⟨(Nat.le_of_ble_eq_true rfl), (Nat.le_of_ble_eq_true rfl)⟩) hP hD hS hFc [0, 1, 2, 3, 4, 5, 6, 7, 8, 9] [10] rfl rfl (by decide) (by decide) (fun u_37 H locs hv hP hD hS => ?_)
          obtain ⟨f_start_32, f_end_33, f_weight_34, f_spread_35, f_widest_36⟩ := u_37
          have hP : va_P (dC, dI) vwCl (wdBx_cut q_this q_row q_start q_end q_weight q_spread q_widest q_shades q_shades_tint q_shades_many q_shades_keys r_shades_rank c_row c_start c_end c_weight c_spread c_widest c_shades_tint c_shades_many c_shades_keys n_row n_start n_end n_weight n_spread n_widest n_shades_tint n_shades_many n_shades_keys w_24 f_row_17 f_start_32 f_end_33 f_weight_34 f_spread_35 f_widest_36 f_shades_size f_shades_stale f_shades_tint f_shades_many f_shades_keys_18) H := hP.sub [1, 2, 3, 4, 5, 6, 7, 8, 9, 10, 0] rfl
          have hD : va_D A (wdBx_cut q_this q_row q_start q_end q_weight q_spread q_widest q_shades q_shades_tint q_shades_many q_shades_keys r_shades_rank c_row c_start c_end c_weight c_spread c_widest c_shades_tint c_shades_many c_shades_keys n_row n_start n_end n_weight n_spread n_widest n_shades_tint n_shades_many n_shades_keys w_24 f_row_17 f_start_32 f_end_33 f_weight_34 f_spread_35 f_widest_36 f_shades_size f_shades_stale f_shades_tint f_shades_many f_shades_keys_18) := hD.sub [1, 2, 3, 4, 5, 6, 7, 8, 9, 10, 0] (by decide) rfl
          refine lv_iinc (v := v3 + 1) (lv' := [(3, .int (v3 + 1)), (6, .int v6_23), (5, .int r_20), (4, .int r_12), (0, .ref q_this), (1, .ref q_shades), (2, .int x2)]) hx hb dBx_cut_136 hl (k := 6) rfl rfl (by decide) rfl (fun ls hl => ?_)
          refine lv_goto (tgt := 41) hx hb dBx_cut_139 (by decide) ?_
          rw [eK41, eG] at hv
          exact hv _ _ _ hP hD hS (lv_sub hl [4, 5, 6, 0] rfl)
        · have hv := hv.2 c_16
          exact W.vret hx hb hr (fun t ht hW => ⟨⟨(f_size, f_row, f_start, f_end, f_weight, f_spread, f_widest, f_shades_keys), rfl, hv, by rw [ht]; exact hP, hD⟩, hS.F ht⟩) hS.2.2 dBx_cut_77)
  rw [eG]
  refine lv_iconst (v := 0) hx hb dBx_cut_0 (by decide) ?_
  refine lv_istore_n (lv' := [(3, .int 0), (0, .ref q_this), (1, .ref q_shades), (2, .int x2)]) hx hb dBx_cut_1 rfl hl (by decide) rfl (fun ls hl => ?_)
  rw [eK2, eG] at hv
  exact hv _ _ _ hP hD hS (lv_sub hl [1, 2, 3, 0] rfl)
abbrev wdAr_fill (q_a0 : Nat) (c_a0 : ClassId) (n_a0 : Nat) (f_a0 : Nat → Int32) : va_W := [(q_a0, .inl (c_a0, n_a0, .inl f_a0))]
set_option maxHeartbeats 4000000 in
set_option maxRecDepth 100000 in
theorem metAr_fill (l : Launch) (dC : Nat → ClassId) (dI : Nat → Nat → Nat) (q_a0 : Nat) (c_a0 : ClassId) (n_a0 : Nat) (sz : Nat) (f_a0 : Nat → Int32) (x1 : Int32) {post : (Nat → Int32) → Prop} (hw : wpAr_fill n_a0 f_a0 x1 post) : Met l yAr_fill (.code yAr_fill bAr_fill 4 none :: BIG) ({ frames := 0, cells := 0, slots := 0, locals := 0 }) (va_Pc [.ref q_a0, .int x1] (gx_pre (dC, dI) vwCl (wdAr_fill q_a0 c_a0 n_a0 f_a0) [(c_a0, .int)] sz)) (va_Qv (fun (u : (Nat → Int32)) => post u) (gx_B (dC, dI) vwCl (va_A (wdAr_fill q_a0 c_a0 n_a0 f_a0) sz) (fun (u : (Nat → Int32)) => (wdAr_fill q_a0 c_a0 n_a0 u))) (va_A (wdAr_fill q_a0 c_a0 n_a0 f_a0) sz)) 0 0 (va_A (wdAr_fill q_a0 c_a0 n_a0 f_a0) sz) := by
  refine Met.ofW (cc := bAr_fill) (maxL := 4) (ret := none) (by decide) rfl ?_
  intro p e s m args below meth c s₁ B hml hv
  obtain ⟨rfl, hsz, hP, hK, hD0, hZ⟩ := hv
  have hx := B.exec
  have hb := B.bytes
  have hr := B.returns
  have hts := atoms_spec (ws := (.code yAr_fill bAr_fill 4 none :: BIG)) B.pre
  have hB : ∀ w ∈ BIG, w.before _ s = true := fun w h => hts w (List.mem_cons_of_mem _ h)
  have hown : s.vm.findClass RAr = some m.cls := findClass_of_methodNamed B.named
  have hlocks := B.notSynchronized
  subst hsz
  have hD := hD0.self (sz := s.heap.size)
  generalize hAe : va_A (wdAr_fill q_a0 c_a0 n_a0 f_a0) s.heap.size = A at hD hZ ⊢
  have hA : ∀ q : Nat, s.heap.size ≤ q → A q := fun q h => by rw [← hAe]; exact Or.inr h
  have hS : va_S A s.heap s.heap [] := va_S.rf
  have hl := lv_entry ([.ref q_a0, .int x1]) (n := 4) (Nat.le_of_ble_eq_true rfl)
  rw [lg_entry_eq]
  generalize (lg_sl ([.ref q_a0, .int x1]) ++ List.replicate (4 - (lg_sl ([.ref q_a0, .int x1])).length) Slot.unset).toArray = ls at hl ⊢
  have hl : lv_has ls 4 [(0, .ref q_a0), (1, .int x1)] := hl
  refine gx_abs (fun G eG => ?_)
  obtain ⟨K5, eK5⟩ : ∃ K : Int32 → Int32 → (Nat → Int32) → Prop, K = fun v2 v3 f_a0 => ∀ (H : Heap) (locs : List Loc) (ls : Array Slot), va_P (dC, dI) vwCl (wdAr_fill q_a0 c_a0 n_a0 f_a0) H → va_D A (wdAr_fill q_a0 c_a0 n_a0 f_a0) → va_S A s.heap H locs → lv_has ls 4 [(0, .ref q_a0), (1, .int x1), (2, .int v2), (3, .int v3)] → G H locs 0 0 (F0 m 5 ls []) := ⟨_, rfl⟩
  unfold wpAr_fill at hw
  have hv := hw K5
  have hv := hv (by
    intro v2 v3 f_a0 hv
    rw [eK5]
    intro H locs ls hP hD hS hl
    rw [eG]
    unfold vcAr_fill_5 at hv
    refine lv_iload_n hx hb dAr_fill_5 rfl (lv_at hl 2 rfl) ?_
    refine lv_iload_n hx hb dAr_fill_6 rfl (lv_at hl 3 rfl) ?_
    refine lv_icmp_ge (tgt := 20) hx hb dAr_fill_7 (by decide) (fun c_1 => ?_) (fun c_1 => ?_)
    · have hv := hv.1 c_1
      exact W.vret hx hb hr (fun t ht hW => ⟨⟨f_a0, rfl, hv, by rw [ht]; exact hP, hD⟩, hS.F ht⟩) hS.2.2 dAr_fill_20
    · have hv := hv.2 c_1
      refine lv_aload_n hx hb dAr_fill_10 rfl (lv_at hl 0 rfl) ?_
      refine lv_iload_n hx hb dAr_fill_11 rfl (lv_at hl 2 rfl) ?_
      refine lv_iload_n hx hb dAr_fill_12 rfl (lv_at hl 1 rfl) ?_
      obtain ⟨h_2, hv⟩ := hv
      refine va_iast hx hb hK hP hD hS 0 0 rfl rfl h_2 dAr_fill_13 (fun H locs hP hD hS => ?_)
      have hP : va_P (dC, dI) vwCl (wdAr_fill q_a0 c_a0 n_a0 (upd f_a0 v2.toNatClampNeg x1)) H := hP
      have hD : va_D A (wdAr_fill q_a0 c_a0 n_a0 (upd f_a0 v2.toNatClampNeg x1)) := hD
      refine lv_iinc (v := v2 + 1) (lv' := [(2, .int (v2 + 1)), (0, .ref q_a0), (1, .int x1), (3, .int v3)]) hx hb dAr_fill_14 hl (k := 2) rfl rfl (by decide) rfl (fun ls hl => ?_)
      refine lv_goto (tgt := 5) hx hb dAr_fill_17 (by decide) ?_
      rw [eK5, eG] at hv
      exact hv _ _ _ hP hD hS (lv_sub hl [1, 2, 0, 3] rfl))
  rw [eG]
  refine lv_iconst (v := 0) hx hb dAr_fill_0 (by decide) ?_
  refine lv_istore_n (lv' := [(2, .int 0), (0, .ref q_a0), (1, .int x1)]) hx hb dAr_fill_1 rfl hl (by decide) rfl (fun ls hl => ?_)
  refine lv_aload_n hx hb dAr_fill_2 rfl (lv_at hl 1 rfl) ?_
  refine va_alen (v := nI n_a0) hx hb hK hP 0 0 rfl rfl rfl dAr_fill_3 ?_
  refine lv_topi (fun v3_4 ev3_4 => ?_)
  have hv := hv v3_4 ev3_4
  refine lv_istore_n (lv' := [(3, .int v3_4), (2, .int 0), (0, .ref q_a0), (1, .int x1)]) hx hb dAr_fill_4 rfl hl (by decide) rfl (fun ls hl => ?_)
  rw [eK5, eG] at hv
  exact hv _ _ _ hP hD hS (lv_sub hl [2, 3, 1, 0] rfl)
abbrev wdPo_start (q_this q_totals q_many r_means : Nat) (c_totals c_many : ClassId) (n_totals n_many : Nat) (f_size : Int32) (f_totals : Nat → Int32) (f_many : Nat → Int32) : va_W := [(q_this, .inr (5, [.ref q_totals, .ref q_many, .ref r_means, .int f_size])), (q_totals, .inl (c_totals, n_totals, .inl f_totals)), (q_many, .inl (c_many, n_many, .inl f_many))]
set_option maxHeartbeats 4000000 in
set_option maxRecDepth 100000 in
theorem metPo_start (l : Launch) (dC : Nat → ClassId) (dI : Nat → Nat → Nat) (q_this q_totals q_many r_means : Nat) (c_totals c_many : ClassId) (n_totals n_many : Nat) (sz : Nat) (f_size : Int32) (f_totals : Nat → Int32) (f_many : Nat → Int32) (x1 : Int32) {post : Int32 → (Nat → Int32) → (Nat → Int32) → Prop} (hw : wpPo_start n_totals n_many f_size f_totals f_many x1 post) : Met l yPo_start (.code yPo_start bPo_start 2 none :: BIG) ({ frames := 1, cells := 0, slots := 0, locals := 23 }) (va_Pc [.ref q_this, .int x1] (gx_pre (dC, dI) vwCl (wdPo_start q_this q_totals q_many r_means c_totals c_many n_totals n_many f_size f_totals f_many) [(c_totals, .int), (c_many, .int)] sz)) (va_Qv (fun (u : Int32 × (Nat → Int32) × (Nat → Int32)) => post u.1 u.2.1 u.2.2) (gx_B (dC, dI) vwCl (va_A (wdPo_start q_this q_totals q_many r_means c_totals c_many n_totals n_many f_size f_totals f_many) sz) (fun (u : Int32 × (Nat → Int32) × (Nat → Int32)) => (wdPo_start q_this q_totals q_many r_means c_totals c_many n_totals n_many u.1 u.2.1 u.2.2))) (va_A (wdPo_start q_this q_totals q_many r_means c_totals c_many n_totals n_many f_size f_totals f_many) sz)) 0 0 (va_A (wdPo_start q_this q_totals q_many r_means c_totals c_many n_totals n_many f_size f_totals f_many) sz) := by
  refine Met.ofW (cc := bPo_start) (maxL := 2) (ret := none) (by decide) rfl ?_
  intro p e s m args below meth c s₁ B hml hv
  obtain ⟨rfl, hsz, hP, hK, hD0, hZ⟩ := hv
  have hx := B.exec
  have hb := B.bytes
  have hr := B.returns
  have hts := atoms_spec (ws := (.code yPo_start bPo_start 2 none :: BIG)) B.pre
  have hB : ∀ w ∈ BIG, w.before _ s = true := fun w h => hts w (List.mem_cons_of_mem _ h)
  have hown : s.vm.findClass RPo = some m.cls := findClass_of_methodNamed B.named
  have hlocks := B.notSynchronized
  subst hsz
  have hD := hD0.self (sz := s.heap.size)
  generalize hAe : va_A (wdPo_start q_this q_totals q_many r_means c_totals c_many n_totals n_many f_size f_totals f_many) s.heap.size = A at hD hZ ⊢
  have hA : ∀ q : Nat, s.heap.size ≤ q → A q := fun q h => by rw [← hAe]; exact Or.inr h
  have hS : va_S A s.heap s.heap [] := va_S.rf
  have hl := lv_entry ([.ref q_this, .int x1]) (n := 2) (Nat.le_of_ble_eq_true rfl)
  rw [lg_entry_eq]
  generalize (lg_sl ([.ref q_this, .int x1]) ++ List.replicate (2 - (lg_sl ([.ref q_this, .int x1])).length) Slot.unset).toArray = ls at hl ⊢
  have hl : lv_has ls 2 [(0, .ref q_this), (1, .int x1)] := hl
  have hL9 := (hB _ bw136)
  have hL15 := (hB _ bw137)
  have hL27 := (hB _ bw140)
  unfold wpPo_start at hw
  have hv := hw
  refine lv_aload_n hx hb dPo_start_0 rfl (lv_at hl 0 rfl) ?_
  refine lv_iload_n hx hb dPo_start_1 rfl (lv_at hl 1 rfl) ?_
  refine lv_bipush (v := 64) hx hb dPo_start_2 (by decide) ?_
  refine va_mmin hx hb (by rw [hml]; exact hl.1.symm) hown (hB _ bw428) (hB _ bw74) (hB _ bw45) (hB _ bw75) (Nat.le_of_ble_eq_true rfl) (Nat.le_of_ble_eq_true rfl) (Nat.le_of_ble_eq_true rfl) (Nat.le_of_ble_eq_true rfl) dPo_start_4 ?_
  refine lv_topi (fun w_1 ew_1 => ?_)
  have hv := hv w_1 ew_1
  refine va_put (D := (dC, dI)) (ci := 5) (v := .int w_1) (ty := .int) (C := RPo) (T := TPo) (N := 4) hx hb hB hiPo tPo tPo_ok nPo hown hK hP hD hS 0 rfl rfl 3 (by decide) hL27 (fun _ h9 => h9) rfl (by decide +kernel) rfl rfl (Nat.le_of_ble_eq_true rfl) dPo_start_7 (fun H locs hP hD hS => ?_)
  have hP : va_P (dC, dI) vwCl (wdPo_start q_this q_totals q_many r_means c_totals c_many n_totals n_many w_1 f_totals f_many) H := hP
  have hD : va_D A (wdPo_start q_this q_totals q_many r_means c_totals c_many n_totals n_many w_1 f_totals f_many) := hD
  refine lv_aload_n hx hb dPo_start_10 rfl (lv_at hl 0 rfl) ?_
  refine va_get (D := (dC, dI)) (ci := 5) (v := .ref q_totals) (C := RPo) (T := TPo) (N := 4) hx hb hB hiPo hown hK hP 0 rfl rfl 0 (by decide) hL9 (fun _ h9 => h9) rfl dPo_start_11 ?_
  refine lv_iconst (v := 0) hx hb dPo_start_14 (by decide) ?_
  have hFc := va_free (wc := (wdAr_fill q_totals c_totals n_totals f_totals)) hD hS hA [1] rfl
  refine gx_v (wr := [(q_this, .inr (5, [.ref q_totals, .ref q_many, .ref r_means, .int w_1])), (q_many, .inl (c_many, n_many, .inl f_many))]) (va_runS (As := [.ref q_totals, .int 0]) (rest := []) ⟨hx, hb, hml, hown, hB⟩ (metAr_fill l dC dI q_totals c_totals n_totals H.size f_totals 0 hv) (va_cwS 2 hB (gx_gS bw429 bw248 bw59 bw249) rfl rfl rfl (by decide +kernel) ⟨(Nat.le_of_ble_eq_true rfl), (Nat.le_of_ble_eq_true rfl)⟩) (gx_preS (hP.sub (ws' := (wdAr_fill q_totals c_totals n_totals f_totals)) [1] rfl) (hK.sub (tys' := [(c_totals, .int)]) [0] rfl) (hD.sub (ws' := (wdAr_fill q_totals c_totals n_totals f_totals)) [1] (by decide) rfl) hZ hS hFc) rfl rfl hl.1 rfl (lv_room (Nat.le_of_ble_eq_true rfl)) dPo_start_15 ⟨(Nat.le_of_ble_eq_true rfl), (Nat.le_of_ble_eq_true rfl)⟩) hP hD hS hFc [1] [0, 2] rfl rfl (by decide) (by decide) (fun u_3 H locs hv hP hD hS => ?_)
  obtain ⟨f_totals_2, rfl⟩ : ∃ z, z = u_3 := ⟨_, rfl⟩
  have hP : va_P (dC, dI) vwCl (wdPo_start q_this q_totals q_many r_means c_totals c_many n_totals n_many w_1 f_totals_2 f_many) H := hP.sub [0, 2, 1] rfl
  have hD : va_D A (wdPo_start q_this q_totals q_many r_means c_totals c_many n_totals n_many w_1 f_totals_2 f_many) := hD.sub [0, 2, 1] (by decide) rfl
  refine lv_aload_n hx hb dPo_start_18 rfl (lv_at hl 0 rfl) ?_
  refine va_get (D := (dC, dI)) (ci := 5) (v := .ref q_many) (C := RPo) (T := TPo) (N := 4) hx hb hB hiPo hown hK hP 0 rfl rfl 1 (by decide) hL15 (fun _ h9 => h9) rfl dPo_start_19 ?_
  refine lv_iconst (v := 0) hx hb dPo_start_22 (by decide) ?_
  have hFc := va_free (wc := (wdAr_fill q_many c_many n_many f_many)) hD hS hA [2] rfl
  refine gx_v (wr := [(q_this, .inr (5, [.ref q_totals, .ref q_many, .ref r_means, .int w_1])), (q_totals, .inl (c_totals, n_totals, .inl f_totals_2))]) (va_runS (As := [.ref q_many, .int 0]) (rest := []) ⟨hx, hb, hml, hown, hB⟩ (metAr_fill l dC dI q_many c_many n_many H.size f_many 0 hv) (va_cwS 2 hB (gx_gS bw429 bw248 bw59 bw249) rfl rfl rfl (by decide +kernel) ⟨(Nat.le_of_ble_eq_true rfl), (Nat.le_of_ble_eq_true rfl)⟩) (gx_preS (hP.sub (ws' := (wdAr_fill q_many c_many n_many f_many)) [2] rfl) (hK.sub (tys' := [(c_many, .int)]) [1] rfl) (hD.sub (ws' := (wdAr_fill q_many c_many n_many f_many)) [2] (by decide) rfl) hZ hS hFc) rfl rfl hl.1 rfl (lv_room (Nat.le_of_ble_eq_true rfl)) dPo_start_23 ⟨(Nat.le_of_ble_eq_true rfl), (Nat.le_of_ble_eq_true rfl)⟩) hP hD hS hFc [2] [0, 1] rfl rfl (by decide) (by decide) (fun u_5 H locs hv hP hD hS => ?_)
  obtain ⟨f_many_4, rfl⟩ : ∃ z, z = u_5 := ⟨_, rfl⟩
  have hP : va_P (dC, dI) vwCl (wdPo_start q_this q_totals q_many r_means c_totals c_many n_totals n_many w_1 f_totals_2 f_many_4) H := hP.sub [0, 1, 2] rfl
  have hD : va_D A (wdPo_start q_this q_totals q_many r_means c_totals c_many n_totals n_many w_1 f_totals_2 f_many_4) := hD.sub [0, 1, 2] (by decide) rfl
  exact W.vret hx hb hr (fun t ht hW => ⟨⟨(w_1, f_totals_2, f_many_4), rfl, hv, by rw [ht]; exact hP, hD⟩, hS.F ht⟩) hS.2.2 dPo_start_26
abbrev wdPo_pour (q_this q_totals q_many r_means : Nat) (c_totals c_many : ClassId) (n_totals n_many : Nat) (f_size : Int32) (f_totals : Nat → Int32) (f_many : Nat → Int32) : va_W := [(q_this, .inr (5, [.ref q_totals, .ref q_many, .ref r_means, .int f_size])), (q_totals, .inl (c_totals, n_totals, .inl f_totals)), (q_many, .inl (c_many, n_many, .inl f_many))]
set_option maxHeartbeats 4000000 in
set_option maxRecDepth 100000 in
theorem metPo_pour (l : Launch) (dC : Nat → ClassId) (dI : Nat → Nat → Nat) (q_this q_totals q_many r_means : Nat) (c_totals c_many : ClassId) (n_totals n_many : Nat) (sz : Nat) (f_size : Int32) (f_totals : Nat → Int32) (f_many : Nat → Int32) (x1 : Int32) (x2 : Int32) (x3 : Int32) {post : (Nat → Int32) → (Nat → Int32) → Prop} (hw : wpPo_pour n_totals n_many f_size f_totals f_many x1 x2 x3 post) : Met l yPo_pour (.code yPo_pour bPo_pour 5 none :: BIG) ({ frames := 1, cells := 0, slots := 0, locals := 21 }) (va_Pc [.ref q_this, .int x1, .int x2, .int x3] (gx_pre (dC, dI) vwCl (wdPo_pour q_this q_totals q_many r_means c_totals c_many n_totals n_many f_size f_totals f_many) [(c_totals, .int), (c_many, .int)] sz)) (va_Qv (fun (u : (Nat → Int32) × (Nat → Int32)) => post u.1 u.2) (gx_B (dC, dI) vwCl (va_A (wdPo_pour q_this q_totals q_many r_means c_totals c_many n_totals n_many f_size f_totals f_many) sz) (fun (u : (Nat → Int32) × (Nat → Int32)) => (wdPo_pour q_this q_totals q_many r_means c_totals c_many n_totals n_many f_size u.1 u.2))) (va_A (wdPo_pour q_this q_totals q_many r_means c_totals c_many n_totals n_many f_size f_totals f_many) sz)) 0 0 (va_A (wdPo_pour q_this q_totals q_many r_means c_totals c_many n_totals n_many f_size f_totals f_many) sz) := by
  refine Met.ofW (cc := bPo_pour) (maxL := 5) (ret := none) (by decide) rfl ?_
  intro p e s m args below meth c s₁ B hml hv
  obtain ⟨rfl, hsz, hP, hK, hD0, hZ⟩ := hv
  have hx := B.exec
  have hb := B.bytes
  have hr := B.returns
  have hts := atoms_spec (ws := (.code yPo_pour bPo_pour 5 none :: BIG)) B.pre
  have hB : ∀ w ∈ BIG, w.before _ s = true := fun w h => hts w (List.mem_cons_of_mem _ h)
  have hown : s.vm.findClass RPo = some m.cls := findClass_of_methodNamed B.named
  have hlocks := B.notSynchronized
  subst hsz
  have hD := hD0.self (sz := s.heap.size)
  generalize hAe : va_A (wdPo_pour q_this q_totals q_many r_means c_totals c_many n_totals n_many f_size f_totals f_many) s.heap.size = A at hD hZ ⊢
  have hA : ∀ q : Nat, s.heap.size ≤ q → A q := fun q h => by rw [← hAe]; exact Or.inr h
  have hS : va_S A s.heap s.heap [] := va_S.rf
  have hl := lv_entry ([.ref q_this, .int x1, .int x2, .int x3]) (n := 5) (Nat.le_of_ble_eq_true rfl)
  rw [lg_entry_eq]
  generalize (lg_sl ([.ref q_this, .int x1, .int x2, .int x3]) ++ List.replicate (5 - (lg_sl ([.ref q_this, .int x1, .int x2, .int x3])).length) Slot.unset).toArray = ls at hl ⊢
  have hl : lv_has ls 5 [(0, .ref q_this), (1, .int x1), (2, .int x2), (3, .int x3)] := hl
  have hL9 := (hB _ bw136)
  have hL15 := (hB _ bw137)
  refine gx_abs (fun G eG => ?_)
  obtain ⟨K3, eK3⟩ : ∃ K : Int32 → (Nat → Int32) → (Nat → Int32) → Prop, K = fun v4 f_totals f_many => ∀ (H : Heap) (locs : List Loc) (ls : Array Slot), va_P (dC, dI) vwCl (wdPo_pour q_this q_totals q_many r_means c_totals c_many n_totals n_many f_size f_totals f_many) H → va_D A (wdPo_pour q_this q_totals q_many r_means c_totals c_many n_totals n_many f_size f_totals f_many) → va_S A s.heap H locs → lv_has ls 5 [(0, .ref q_this), (1, .int x1), (2, .int x2), (3, .int x3), (4, .int v4)] → G H locs 0 0 (F0 m 3 ls []) := ⟨_, rfl⟩
  unfold wpPo_pour at hw
  have hv := hw K3
  have hv := hv (by
    intro v4 f_totals f_many hv
    rw [eK3]
    intro H locs ls hP hD hS hl
    rw [eG]
    unfold vcPo_pour_3 at hv
    refine lv_iload hx hb dPo_pour_3 (lv_at hl 4 rfl) ?_
    refine lv_iconst (v := 4) hx hb dPo_pour_5 (by decide) ?_
    refine lv_icmp_ge (tgt := 37) hx hb dPo_pour_6 (by decide) (fun c_1 => ?_) (fun c_1 => ?_)
    · have hv := hv.1 c_1
      refine lv_aload_n hx hb dPo_pour_37 rfl (lv_at hl 0 rfl) ?_
      refine va_get (D := (dC, dI)) (ci := 5) (v := .ref q_many) (C := RPo) (T := TPo) (N := 4) hx hb hB hiPo hown hK hP 0 rfl rfl 1 (by decide) hL15 (fun _ h9 => h9) rfl dPo_pour_38 ?_
      refine lv_iload_n hx hb dPo_pour_41 rfl (lv_at hl 1 rfl) ?_
      refine lv_dup2_11 hx hb dPo_pour_42 rfl rfl ?_
      obtain ⟨h_2, hv⟩ := hv
      refine va_iald hx hb hK hP 2 1 rfl rfl h_2 dPo_pour_43 ?_
      refine lv_iload_n hx hb dPo_pour_44 rfl (lv_at hl 3 rfl) ?_
      refine lv_iadd hx hb dPo_pour_45 ?_
      obtain ⟨h_3, hv⟩ := hv
      refine va_iast hx hb hK hP hD hS 2 1 rfl rfl h_3 dPo_pour_46 (fun H locs hP hD hS => ?_)
      have hP : va_P (dC, dI) vwCl (wdPo_pour q_this q_totals q_many r_means c_totals c_many n_totals n_many f_size f_totals (upd f_many x1.toNatClampNeg ((f_many x1.toNatClampNeg) + x3))) H := hP
      have hD : va_D A (wdPo_pour q_this q_totals q_many r_means c_totals c_many n_totals n_many f_size f_totals (upd f_many x1.toNatClampNeg ((f_many x1.toNatClampNeg) + x3))) := hD
      exact W.vret hx hb hr (fun t ht hW => ⟨⟨(f_totals, upd f_many x1.toNatClampNeg ((f_many x1.toNatClampNeg) + x3)), rfl, hv, by rw [ht]; exact hP, hD⟩, hS.F ht⟩) hS.2.2 dPo_pour_47
    · have hv := hv.2 c_1
      refine lv_aload_n hx hb dPo_pour_9 rfl (lv_at hl 0 rfl) ?_
      refine va_get (D := (dC, dI)) (ci := 5) (v := .ref q_totals) (C := RPo) (T := TPo) (N := 4) hx hb hB hiPo hown hK hP 0 rfl rfl 0 (by decide) hL9 (fun _ h9 => h9) rfl dPo_pour_10 ?_
      refine lv_iload_n hx hb dPo_pour_13 rfl (lv_at hl 1 rfl) ?_
      refine lv_iconst (v := 4) hx hb dPo_pour_14 (by decide) ?_
      refine lv_imul hx hb dPo_pour_15 ?_
      refine lv_iload hx hb dPo_pour_16 (lv_at hl 4 rfl) ?_
      refine lv_iadd hx hb dPo_pour_18 ?_
      refine lv_dup2_11 hx hb dPo_pour_19 rfl rfl ?_
      obtain ⟨h_5, hv⟩ := hv
      refine va_iald hx hb hK hP 1 0 rfl rfl h_5 dPo_pour_20 ?_
      refine lv_iload_n hx hb dPo_pour_21 rfl (lv_at hl 2 rfl) ?_
      refine lv_iload hx hb dPo_pour_22 (lv_at hl 4 rfl) ?_
      refine gx_ri (va_runSN (As := [.int x2, .int v4]) (rest := [.int (f_totals ((x1 * 4) + v4).toNatClampNeg), .int ((x1 * 4) + v4), .ref q_totals]) ⟨hx, hb, hml, hown, hB⟩ (metCL_levelOf l dC dI H.size x2 v4 hv) ⟨va_cnB 2 hB (gx_gN bw364) rfl rfl rfl (hZ.1 _ (List.mem_of_getElem? (i := 15) rfl)) (hB _ bw44) (by decide +kernel) ⟨(Nat.le_of_ble_eq_true rfl), (Nat.le_of_ble_eq_true rfl)⟩, (hB _ bw363), trivial⟩ (gx_rpreS (hP.sub (ws' := wdCL_levelOf) [] rfl) (hK.sub (tys' := []) [] rfl) hZ hS hA) rfl rfl hl.1 rfl (lv_room (Nat.le_of_ble_eq_true rfl)) dPo_pour_24 ⟨(Nat.le_of_ble_eq_true rfl), (Nat.le_of_ble_eq_true rfl)⟩) hP hS hA (fun r_6 H locs hv hP hS => ?_)
      refine lv_iload_n hx hb dPo_pour_27 rfl (lv_at hl 3 rfl) ?_
      refine lv_imul hx hb dPo_pour_28 ?_
      refine lv_iadd hx hb dPo_pour_29 ?_
      obtain ⟨h_8, hv⟩ := hv
      refine va_iast hx hb hK hP hD hS 1 0 rfl rfl h_8 dPo_pour_30 (fun H locs hP hD hS => ?_)
      have hP : va_P (dC, dI) vwCl (wdPo_pour q_this q_totals q_many r_means c_totals c_many n_totals n_many f_size (upd f_totals ((x1 * 4) + v4).toNatClampNeg ((f_totals ((x1 * 4) + v4).toNatClampNeg) + (r_6 * x3))) f_many) H := hP
      have hD : va_D A (wdPo_pour q_this q_totals q_many r_means c_totals c_many n_totals n_many f_size (upd f_totals ((x1 * 4) + v4).toNatClampNeg ((f_totals ((x1 * 4) + v4).toNatClampNeg) + (r_6 * x3))) f_many) := hD
      refine lv_iinc (v := v4 + 1) (lv' := [(4, .int (v4 + 1)), (0, .ref q_this), (1, .int x1), (2, .int x2), (3, .int x3)]) hx hb dPo_pour_31 hl (k := 4) rfl rfl (by decide) rfl (fun ls hl => ?_)
      refine lv_goto (tgt := 3) hx hb dPo_pour_34 (by decide) ?_
      rw [eK3, eG] at hv
      exact hv _ _ _ hP hD hS (lv_sub hl [1, 2, 3, 4, 0] rfl))
  rw [eG]
  refine lv_iconst (v := 0) hx hb dPo_pour_0 (by decide) ?_
  refine lv_istore (lv' := [(4, .int 0), (0, .ref q_this), (1, .int x1), (2, .int x2), (3, .int x3)]) hx hb dPo_pour_1 hl (by decide) rfl (fun ls hl => ?_)
  rw [eK3, eG] at hv
  exact hv _ _ _ hP hD hS (lv_sub hl [1, 2, 3, 4, 0] rfl)
abbrev wdBx_pourInto (q_this q_row q_start q_end q_pools q_pools_totals q_pools_many q_shades q_shades_tint q_shades_many r_weight r_spread r_widest r_pools_means r_shades_rank r_shades_keys : Nat) (c_row c_start c_end c_pools_totals c_pools_many c_shades_tint c_shades_many : ClassId) (n_row n_start n_end n_pools_totals n_pools_many n_shades_tint n_shades_many : Nat) (f_size : Int32) (f_row : Nat → Int32) (f_start : Nat → Int32) (f_end : Nat → Int32) (f_pools_size : Int32) (f_pools_totals : Nat → Int32) (f_pools_many : Nat → Int32) (f_shades_size : Int32) (f_shades_stale : Int32) (f_shades_tint : Nat → Int32) (f_shades_many : Nat → Int32) : va_W := [(q_this, .inr (0, [.ref q_row, .ref q_start, .ref q_end, .ref r_weight, .ref r_spread, .ref r_widest, .int f_size])), (q_row, .inl (c_row, n_row, .inl f_row)), (q_start, .inl (c_start, n_start, .inl f_start)), (q_end, .inl (c_end, n_end, .inl f_end)), (q_pools, .inr (5, [.ref q_pools_totals, .ref q_pools_many, .ref r_pools_means, .int f_pools_size])), (q_pools_totals, .inl (c_pools_totals, n_pools_totals, .inl f_pools_totals)), (q_pools_many, .inl (c_pools_many, n_pools_many, .inl f_pools_many)), (q_shades, .inr (6, [.ref q_shades_tint, .ref q_shades_many, .ref r_shades_rank, .ref r_shades_keys, .int f_shades_size, .int f_shades_stale])), (q_shades_tint, .inl (c_shades_tint, n_shades_tint, .inl f_shades_tint)), (q_shades_many, .inl (c_shades_many, n_shades_many, .inl f_shades_many))]
set_option maxHeartbeats 4000000 in
set_option maxRecDepth 100000 in
theorem metBx_pourInto (l : Launch) (dC : Nat → ClassId) (dI : Nat → Nat → Nat) (q_this q_row q_start q_end q_pools q_pools_totals q_pools_many q_shades q_shades_tint q_shades_many r_weight r_spread r_widest r_pools_means r_shades_rank r_shades_keys : Nat) (c_row c_start c_end c_pools_totals c_pools_many c_shades_tint c_shades_many : ClassId) (n_row n_start n_end n_pools_totals n_pools_many n_shades_tint n_shades_many : Nat) (sz : Nat) (f_size : Int32) (f_row : Nat → Int32) (f_start : Nat → Int32) (f_end : Nat → Int32) (f_pools_size : Int32) (f_pools_totals : Nat → Int32) (f_pools_many : Nat → Int32) (f_shades_size : Int32) (f_shades_stale : Int32) (f_shades_tint : Nat → Int32) (f_shades_many : Nat → Int32) {post : Int32 → (Nat → Int32) → (Nat → Int32) → Prop} (hw : wpBx_pourInto n_row n_start n_end n_pools_totals n_pools_many n_shades_tint n_shades_many f_size f_row f_start f_end f_pools_size f_pools_totals f_pools_many f_shades_size f_shades_stale f_shades_tint f_shades_many post) : Met l yBx_pourInto (.code yBx_pourInto bBx_pourInto 5 none :: BIG) ({ frames := 2, cells := 0, slots := 0, locals := 45 }) (va_Pc [.ref q_this, .ref q_pools, .ref q_shades] (gx_pre (dC, dI) vwCl (wdBx_pourInto q_this q_row q_start q_end q_pools q_pools_totals q_pools_many q_shades q_shades_tint q_shades_many r_weight r_spread r_widest r_pools_means r_shades_rank r_shades_keys c_row c_start c_end c_pools_totals c_pools_many c_shades_tint c_shades_many n_row n_start n_end n_pools_totals n_pools_many n_shades_tint n_shades_many f_size f_row f_start f_end f_pools_size f_pools_totals f_pools_many f_shades_size f_shades_stale f_shades_tint f_shades_many) [(c_row, .int), (c_start, .int), (c_end, .int), (c_pools_totals, .int), (c_pools_many, .int), (c_shades_tint, .int), (c_shades_many, .int)] sz)) (va_Qv (fun (u : Int32 × (Nat → Int32) × (Nat → Int32)) => post u.1 u.2.1 u.2.2) (gx_B (dC, dI) vwCl (va_A (wdBx_pourInto q_this q_row q_start q_end q_pools q_pools_totals q_pools_many q_shades q_shades_tint q_shades_many r_weight r_spread r_widest r_pools_means r_shades_rank r_shades_keys c_row c_start c_end c_pools_totals c_pools_many c_shades_tint c_shades_many n_row n_start n_end n_pools_totals n_pools_many n_shades_tint n_shades_many f_size f_row f_start f_end f_pools_size f_pools_totals f_pools_many f_shades_size f_shades_stale f_shades_tint f_shades_many) sz) (fun (u : Int32 × (Nat → Int32) × (Nat → Int32)) => (wdBx_pourInto q_this q_row q_start q_end q_pools q_pools_totals q_pools_many q_shades q_shades_tint q_shades_many r_weight r_spread r_widest r_pools_means r_shades_rank r_shades_keys c_row c_start c_end c_pools_totals c_pools_many c_shades_tint c_shades_many n_row n_start n_end n_pools_totals n_pools_many n_shades_tint n_shades_many f_size f_row f_start f_end u.1 u.2.1 u.2.2 f_shades_size f_shades_stale f_shades_tint f_shades_many))) (va_A (wdBx_pourInto q_this q_row q_start q_end q_pools q_pools_totals q_pools_many q_shades q_shades_tint q_shades_many r_weight r_spread r_widest r_pools_means r_shades_rank r_shades_keys c_row c_start c_end c_pools_totals c_pools_many c_shades_tint c_shades_many n_row n_start n_end n_pools_totals n_pools_many n_shades_tint n_shades_many f_size f_row f_start f_end f_pools_size f_pools_totals f_pools_many f_shades_size f_shades_stale f_shades_tint f_shades_many) sz)) 0 0 (va_A (wdBx_pourInto q_this q_row q_start q_end q_pools q_pools_totals q_pools_many q_shades q_shades_tint q_shades_many r_weight r_spread r_widest r_pools_means r_shades_rank r_shades_keys c_row c_start c_end c_pools_totals c_pools_many c_shades_tint c_shades_many n_row n_start n_end n_pools_totals n_pools_many n_shades_tint n_shades_many f_size f_row f_start f_end f_pools_size f_pools_totals f_pools_many f_shades_size f_shades_stale f_shades_tint f_shades_many) sz) := by
  refine Met.ofW (cc := bBx_pourInto) (maxL := 5) (ret := none) (by decide) rfl ?_
  intro p e s m args below meth c s₁ B hml hv
  obtain ⟨rfl, hsz, hP, hK, hD0, hZ⟩ := hv
  have hx := B.exec
  have hb := B.bytes
  have hr := B.returns
  have hts := atoms_spec (ws := (.code yBx_pourInto bBx_pourInto 5 none :: BIG)) B.pre
  have hB : ∀ w ∈ BIG, w.before _ s = true := fun w h => hts w (List.mem_cons_of_mem _ h)
  have hown : s.vm.findClass RBx = some m.cls := findClass_of_methodNamed B.named
  have hlocks := B.notSynchronized
  subst hsz
  have hD := hD0.self (sz := s.heap.size)
  generalize hAe : va_A (wdBx_pourInto q_this q_row q_start q_end q_pools q_pools_totals q_pools_many q_shades q_shades_tint q_shades_many r_weight r_spread r_widest r_pools_means r_shades_rank r_shades_keys c_row c_start c_end c_pools_totals c_pools_many c_shades_tint c_shades_many n_row n_start n_end n_pools_totals n_pools_many n_shades_tint n_shades_many f_size f_row f_start f_end f_pools_size f_pools_totals f_pools_many f_shades_size f_shades_stale f_shades_tint f_shades_many) s.heap.size = A at hD hZ ⊢
  have hA : ∀ q : Nat, s.heap.size ≤ q → A q := fun q h => by rw [← hAe]; exact Or.inr h
  have hS : va_S A s.heap s.heap [] := va_S.rf
  have hl := lv_entry ([.ref q_this, .ref q_pools, .ref q_shades]) (n := 5) (Nat.le_of_ble_eq_true rfl)
  rw [lg_entry_eq]
  generalize (lg_sl ([.ref q_this, .ref q_pools, .ref q_shades]) ++ List.replicate (5 - (lg_sl ([.ref q_this, .ref q_pools, .ref q_shades])).length) Slot.unset).toArray = ls at hl ⊢
  have hl : lv_has ls 5 [(0, .ref q_this), (1, .ref q_pools), (2, .ref q_shades)] := hl
  have hL9 := (hB _ bw118)
  have hL15 := (hB _ bw119)
  have hL27 := (hB _ bw117)
  have hL30 := (hB _ bw123)
  have hL58 := (hB _ bw86)
  have hL61 := (hB _ bw91)
  refine gx_abs (fun G eG => ?_)
  obtain ⟨K10, eK10⟩ : ∃ K : Int32 → Int32 → (Nat → Int32) → (Nat → Int32) → Prop, K = fun v3 f_pools_size f_pools_totals f_pools_many => ∀ (H : Heap) (locs : List Loc) (ls : Array Slot), va_P (dC, dI) vwCl (wdBx_pourInto q_this q_row q_start q_end q_pools q_pools_totals q_pools_many q_shades q_shades_tint q_shades_many r_weight r_spread r_widest r_pools_means r_shades_rank r_shades_keys c_row c_start c_end c_pools_totals c_pools_many c_shades_tint c_shades_many n_row n_start n_end n_pools_totals n_pools_many n_shades_tint n_shades_many f_size f_row f_start f_end f_pools_size f_pools_totals f_pools_many f_shades_size f_shades_stale f_shades_tint f_shades_many) H → va_D A (wdBx_pourInto q_this q_row q_start q_end q_pools q_pools_totals q_pools_many q_shades q_shades_tint q_shades_many r_weight r_spread r_widest r_pools_means r_shades_rank r_shades_keys c_row c_start c_end c_pools_totals c_pools_many c_shades_tint c_shades_many n_row n_start n_end n_pools_totals n_pools_many n_shades_tint n_shades_many f_size f_row f_start f_end f_pools_size f_pools_totals f_pools_many f_shades_size f_shades_stale f_shades_tint f_shades_many) → va_S A s.heap H locs → lv_has ls 5 [(0, .ref q_this), (1, .ref q_pools), (2, .ref q_shades), (3, .int v3)] → G H locs 0 0 (F0 m 10 ls []) := ⟨_, rfl⟩
  obtain ⟨K26, eK26⟩ : ∃ K : Int32 → Int32 → Int32 → (Nat → Int32) → (Nat → Int32) → Prop, K = fun v3 v4 f_pools_size f_pools_totals f_pools_many => ∀ (H : Heap) (locs : List Loc) (ls : Array Slot), va_P (dC, dI) vwCl (wdBx_pourInto q_this q_row q_start q_end q_pools q_pools_totals q_pools_many q_shades q_shades_tint q_shades_many r_weight r_spread r_widest r_pools_means r_shades_rank r_shades_keys c_row c_start c_end c_pools_totals c_pools_many c_shades_tint c_shades_many n_row n_start n_end n_pools_totals n_pools_many n_shades_tint n_shades_many f_size f_row f_start f_end f_pools_size f_pools_totals f_pools_many f_shades_size f_shades_stale f_shades_tint f_shades_many) H → va_D A (wdBx_pourInto q_this q_row q_start q_end q_pools q_pools_totals q_pools_many q_shades q_shades_tint q_shades_many r_weight r_spread r_widest r_pools_means r_shades_rank r_shades_keys c_row c_start c_end c_pools_totals c_pools_many c_shades_tint c_shades_many n_row n_start n_end n_pools_totals n_pools_many n_shades_tint n_shades_many f_size f_row f_start f_end f_pools_size f_pools_totals f_pools_many f_shades_size f_shades_stale f_shades_tint f_shades_many) → va_S A s.heap H locs → lv_has ls 5 [(0, .ref q_this), (1, .ref q_pools), (2, .ref q_shades), (3, .int v3), (4, .int v4)] → G H locs 0 0 (F0 m 26 ls []) := ⟨_, rfl⟩
  unfold wpBx_pourInto at hw
  have hv := hw K10 K26
  have hv := hv (by
    intro v3 f_pools_size f_pools_totals f_pools_many hv
    rw [eK10]
    intro H locs ls hP hD hS hl
    rw [eG]
    unfold vcBx_pourInto_10 at hv
    refine lv_iload_n hx hb dBx_pourInto_10 rfl (lv_at hl 3 rfl) ?_
    refine lv_aload_n hx hb dBx_pourInto_11 rfl (lv_at hl 0 rfl) ?_
    refine va_get (D := (dC, dI)) (ci := 0) (v := .int f_size) (C := RBx) (T := TBx) (N := 7) hx hb hB hiBx hown hK hP 0 rfl rfl 6 (by decide) hL30 (fun _ h9 => h9) rfl dBx_pourInto_12 ?_
    refine lv_icmp_ge (tgt := 78) hx hb dBx_pourInto_15 (by decide) (fun c_1 => ?_) (fun c_1 => ?_)
    · have hv := hv.1 c_1
      exact W.vret hx hb hr (fun t ht hW => ⟨⟨(f_pools_size, f_pools_totals, f_pools_many), rfl, hv, by rw [ht]; exact hP, hD⟩, hS.F ht⟩) hS.2.2 dBx_pourInto_78
    · have hv := hv.2 c_1
      refine lv_aload_n hx hb dBx_pourInto_18 rfl (lv_at hl 0 rfl) ?_
      refine va_get (D := (dC, dI)) (ci := 0) (v := .ref q_start) (C := RBx) (T := TBx) (N := 7) hx hb hB hiBx hown hK hP 0 rfl rfl 1 (by decide) hL9 (fun _ h9 => h9) rfl dBx_pourInto_19 ?_
      refine lv_iload_n hx hb dBx_pourInto_22 rfl (lv_at hl 3 rfl) ?_
      obtain ⟨h_2, hv⟩ := hv
      refine va_iald hx hb hK hP 2 1 rfl rfl h_2 dBx_pourInto_23 ?_
      refine lv_topi (fun v4_3 ev4_3 => ?_)
      have hv := hv v4_3 ev4_3
      refine lv_istore (lv' := [(4, .int v4_3), (0, .ref q_this), (1, .ref q_pools), (2, .ref q_shades), (3, .int v3)]) hx hb dBx_pourInto_24 hl (by decide) rfl (fun ls hl => ?_)
      rw [eK26, eG] at hv
      exact hv _ _ _ hP hD hS (lv_sub hl [1, 2, 3, 4, 0] rfl))
  have hv := hv (by
    intro v3 v4 f_pools_size f_pools_totals f_pools_many hv
    rw [eK26]
    intro H locs ls hP hD hS hl
    rw [eG]
    unfold vcBx_pourInto_26 at hv
    refine lv_iload hx hb dBx_pourInto_26 (lv_at hl 4 rfl) ?_
    refine lv_aload_n hx hb dBx_pourInto_28 rfl (lv_at hl 0 rfl) ?_
    refine va_get (D := (dC, dI)) (ci := 0) (v := .ref q_end) (C := RBx) (T := TBx) (N := 7) hx hb hB hiBx hown hK hP 0 rfl rfl 2 (by decide) hL15 (fun _ h9 => h9) rfl dBx_pourInto_29 ?_
    refine lv_iload_n hx hb dBx_pourInto_32 rfl (lv_at hl 3 rfl) ?_
    obtain ⟨h_4, hv⟩ := hv
    refine va_iald hx hb hK hP 3 2 rfl rfl h_4 dBx_pourInto_33 ?_
    refine lv_icmp_ge (tgt := 72) hx hb dBx_pourInto_34 (by decide) (fun c_5 => ?_) (fun c_5 => ?_)
    · have hv := hv.1 c_5
      refine lv_iinc (v := v3 + 1) (lv' := [(3, .int (v3 + 1)), (0, .ref q_this), (1, .ref q_pools), (2, .ref q_shades), (4, .int v4)]) hx hb dBx_pourInto_72 hl (k := 3) rfl rfl (by decide) rfl (fun ls hl => ?_)
      refine lv_goto (tgt := 10) hx hb dBx_pourInto_75 (by decide) ?_
      rw [eK10, eG] at hv
      exact hv _ _ _ hP hD hS (lv_sub hl [1, 2, 3, 0] rfl)
    · have hv := hv.2 c_5
      refine lv_aload_n hx hb dBx_pourInto_37 rfl (lv_at hl 1 rfl) ?_
      refine lv_iload_n hx hb dBx_pourInto_38 rfl (lv_at hl 3 rfl) ?_
      refine lv_aload_n hx hb dBx_pourInto_39 rfl (lv_at hl 2 rfl) ?_
      refine va_get (D := (dC, dI)) (ci := 6) (v := .ref q_shades_tint) (C := RSh) (T := TSh) (N := 6) hx hb hB hiSh hown hK hP 7 rfl rfl 0 (by decide) hL58 (fun _ h9 => h9) rfl dBx_pourInto_40 ?_
      refine lv_aload_n hx hb dBx_pourInto_43 rfl (lv_at hl 0 rfl) ?_
      refine va_get (D := (dC, dI)) (ci := 0) (v := .ref q_row) (C := RBx) (T := TBx) (N := 7) hx hb hB hiBx hown hK hP 0 rfl rfl 0 (by decide) hL27 (fun _ h9 => h9) rfl dBx_pourInto_44 ?_
      refine lv_iload hx hb dBx_pourInto_47 (lv_at hl 4 rfl) ?_
      obtain ⟨h_6, hv⟩ := hv
      refine va_iald hx hb hK hP 1 0 rfl rfl h_6 dBx_pourInto_49 ?_
      obtain ⟨h_7, hv⟩ := hv
      refine va_iald hx hb hK hP 8 5 rfl rfl h_7 dBx_pourInto_50 ?_
      refine lv_aload_n hx hb dBx_pourInto_51 rfl (lv_at hl 2 rfl) ?_
      refine va_get (D := (dC, dI)) (ci := 6) (v := .ref q_shades_many) (C := RSh) (T := TSh) (N := 6) hx hb hB hiSh hown hK hP 7 rfl rfl 1 (by decide) hL61 (fun _ h9 => h9) rfl dBx_pourInto_52 ?_
      refine lv_aload_n hx hb dBx_pourInto_55 rfl (lv_at hl 0 rfl) ?_
      refine va_get (D := (dC, dI)) (ci := 0) (v := .ref q_row) (C := RBx) (T := TBx) (N := 7) hx hb hB hiBx hown hK hP 0 rfl rfl 0 (by decide) hL27 (fun _ h9 => h9) rfl dBx_pourInto_56 ?_
      refine lv_iload hx hb dBx_pourInto_59 (lv_at hl 4 rfl) ?_
      obtain ⟨h_8, hv⟩ := hv
      refine va_iald hx hb hK hP 1 0 rfl rfl h_8 dBx_pourInto_61 ?_
      obtain ⟨h_9, hv⟩ := hv
      refine va_iald hx hb hK hP 9 6 rfl rfl h_9 dBx_pourInto_62 ?_
      have hFc := va_free (wc := (wdPo_pour q_pools q_pools_totals q_pools_many r_pools_means c_pools_totals c_pools_many n_pools_totals n_pools_many f_pools_size f_pools_totals f_pools_many)) hD hS hA [4, 5, 6] rfl
      refine gx_v (wr := [(q_this, .inr (0, [.ref q_row, .ref q_start, .ref q_end, .ref r_weight, .ref r_spread, .ref r_widest, .int f_size])), (q_row, .inl (c_row, n_row, .inl f_row)), (q_start, .inl (c_start, n_start, .inl f_start)), (q_end, .inl (c_end, n_end, .inl f_end)), (q_shades, .inr (6, [.ref q_shades_tint, .ref q_shades_many, .ref r_shades_rank, .ref r_shades_keys, .int f_shades_size, .int f_shades_stale])), (q_shades_tint, .inl (c_shades_tint, n_shades_tint, .inl f_shades_tint)), (q_shades_many, .inl (c_shades_many, n_shades_many, .inl f_shades_many))]) (va_runV (As := [.int v3, .int (f_shades_tint (f_row v4.toNatClampNeg).toNatClampNeg), .int (f_shades_many (f_row v4.toNatClampNeg).toNatClampNeg)]) (rest := []) ⟨hx, hb, hml, hown, hB⟩ (metPo_pour l dC dI q_pools q_pools_totals q_pools_many r_pools_means c_pools_totals c_pools_many n_pools_totals n_pools_many H.size f_pools_size f_pools_totals f_pools_many v3 (f_shades_tint (f_row v4.toNatClampNeg).toNatClampNeg) (f_shades_many (f_row v4.toNatClampNeg).toNatClampNeg) hv) (cwV 3 hB (gx_gV bw430 bw431 bw432 bw48 bw433) rfl rfl rfl (by decide +kernel) ⟨(Nat.le_of_ble_eq_true rfl), (Nat.le_of_ble_eq_true rfl)⟩) (gx_preV (ci := 5) (hP.sub (ws' := (wdPo_pour q_pools q_pools_totals q_pools_many r_pools_means c_pools_totals c_pools_many n_pools_totals n_pools_many f_pools_size f_pools_totals f_pools_many)) [4, 5, 6] rfl) (hK.sub (tys' := [(c_pools_totals, .int), (c_pools_many, .int)]) [3, 4] rfl) (hD.sub (ws' := (wdPo_pour q_pools q_pools_totals q_pools_many r_pools_means c_pools_totals c_pools_many n_pools_totals n_pools_many f_pools_size f_pools_totals f_pools_many)) [4, 5, 6] (by decide) rfl) hZ hS hFc rfl rfl) rfl rfl hl.1 rfl (lv_room (Nat.le_of_ble_eq_true rfl)) dBx_pourInto_63 ⟨(Nat.le_of_ble_eq_true rfl), (Nat.le_of_ble_eq_true rfl)⟩) hP hD hS hFc [4, 5, 6] [0, 1, 2, 3, 7, 8, 9] rfl rfl (by decide) (by decide) (fun u_12 H locs hv hP hD hS => ?_)
      obtain ⟨f_pools_totals_10, f_pools_many_11⟩ := u_12
      have hP : va_P (dC, dI) vwCl (wdBx_pourInto q_this q_row q_start q_end q_pools q_pools_totals q_pools_many q_shades q_shades_tint q_shades_many r_weight r_spread r_widest r_pools_means r_shades_rank r_shades_keys c_row c_start c_end c_pools_totals c_pools_many c_shades_tint c_shades_many n_row n_start n_end n_pools_totals n_pools_many n_shades_tint n_shades_many f_size f_row f_start f_end f_pools_size f_pools_totals_10 f_pools_many_11 f_shades_size f_shades_stale f_shades_tint f_shades_many) H := hP.sub [0, 1, 2, 3, 7, 8, 9, 4, 5, 6] rfl
      have hD : va_D A (wdBx_pourInto q_this q_row q_start q_end q_pools q_pools_totals q_pools_many q_shades q_shades_tint q_shades_many r_weight r_spread r_widest r_pools_means r_shades_rank r_shades_keys c_row c_start c_end c_pools_totals c_pools_many c_shades_tint c_shades_many n_row n_start n_end n_pools_totals n_pools_many n_shades_tint n_shades_many f_size f_row f_start f_end f_pools_size f_pools_totals_10 f_pools_many_11 f_shades_size f_shades_stale f_shades_tint f_shades_many) := hD.sub [0, 1, 2, 3, 7, 8, 9, 4, 5, 6] (by decide) rfl
      refine lv_iinc (v := v4 + 1) (lv' := [(4, .int (v4 + 1)), (0, .ref q_this), (1, .ref q_pools), (2, .ref q_shades), (3, .int v3)]) hx hb dBx_pourInto_66 hl (k := 4) rfl rfl (by decide) rfl (fun ls hl => ?_)
      refine lv_goto (tgt := 26) hx hb dBx_pourInto_69 (by decide) ?_
      rw [eK26, eG] at hv
      exact hv _ _ _ hP hD hS (lv_sub hl [1, 2, 3, 4, 0] rfl))
  rw [eG]
  refine lv_aload_n hx hb dBx_pourInto_0 rfl (lv_at hl 1 rfl) ?_
  refine lv_aload_n hx hb dBx_pourInto_1 rfl (lv_at hl 0 rfl) ?_
  refine va_get (D := (dC, dI)) (ci := 0) (v := .int f_size) (C := RBx) (T := TBx) (N := 7) hx hb hB hiBx hown hK hP 0 rfl rfl 6 (by decide) hL30 (fun _ h9 => h9) rfl dBx_pourInto_2 ?_
  have hFc := va_free (wc := (wdPo_start q_pools q_pools_totals q_pools_many r_pools_means c_pools_totals c_pools_many n_pools_totals n_pools_many f_pools_size f_pools_totals f_pools_many)) hD hS hA [4, 5, 6] rfl
  refine gx_v (wr := [(q_this, .inr (0, [.ref q_row, .ref q_start, .ref q_end, .ref r_weight, .ref r_spread, .ref r_widest, .int f_size])), (q_row, .inl (c_row, n_row, .inl f_row)), (q_start, .inl (c_start, n_start, .inl f_start)), (q_end, .inl (c_end, n_end, .inl f_end)), (q_shades, .inr (6, [.ref q_shades_tint, .ref q_shades_many, .ref r_shades_rank, .ref r_shades_keys, .int f_shades_size, .int f_shades_stale])), (q_shades_tint, .inl (c_shades_tint, n_shades_tint, .inl f_shades_tint)), (q_shades_many, .inl (c_shades_many, n_shades_many, .inl f_shades_many))]) (va_runV (As := [.int f_size]) (rest := []) ⟨hx, hb, hml, hown, hB⟩ (metPo_start l dC dI q_pools q_pools_totals q_pools_many r_pools_means c_pools_totals c_pools_many n_pools_totals n_pools_many s.heap.size f_pools_size f_pools_totals f_pools_many f_size hv) (cwV 1 hB (gx_gV bw424 bw425 bw426 bw48 bw427) rfl rfl rfl (by decide +kernel) ⟨(Nat.le_of_ble_eq_true rfl), (Nat.le_of_ble_eq_true rfl)⟩) (gx_preV (ci := 5) (hP.sub (ws' := (wdPo_start q_pools q_pools_totals q_pools_many r_pools_means c_pools_totals c_pools_many n_pools_totals n_pools_many f_pools_size f_pools_totals f_pools_many)) [4, 5, 6] rfl) (hK.sub (tys' := [(c_pools_totals, .int), (c_pools_many, .int)]) [3, 4] rfl) (hD.sub (ws' := (wdPo_start q_pools q_pools_totals q_pools_many r_pools_means c_pools_totals c_pools_many n_pools_totals n_pools_many f_pools_size f_pools_totals f_pools_many)) [4, 5, 6] (by decide) rfl) hZ hS hFc rfl rfl) rfl rfl hl.1 rfl (lv_room (Nat.le_of_ble_eq_true rfl)) dBx_pourInto_5 ⟨(Nat.le_of_ble_eq_true rfl), (Nat.le_of_ble_eq_true rfl)⟩) hP hD hS hFc [4, 5, 6] [0, 1, 2, 3, 7, 8, 9] rfl rfl (by decide) (by decide) (fun u_16 H locs hv hP hD hS => ?_)
  obtain ⟨f_pools_size_13, f_pools_totals_14, f_pools_many_15⟩ := u_16
  have hP : va_P (dC, dI) vwCl (wdBx_pourInto q_this q_row q_start q_end q_pools q_pools_totals q_pools_many q_shades q_shades_tint q_shades_many r_weight r_spread r_widest r_pools_means r_shades_rank r_shades_keys c_row c_start c_end c_pools_totals c_pools_many c_shades_tint c_shades_many n_row n_start n_end n_pools_totals n_pools_many n_shades_tint n_shades_many f_size f_row f_start f_end f_pools_size_13 f_pools_totals_14 f_pools_many_15 f_shades_size f_shades_stale f_shades_tint f_shades_many) H := hP.sub [0, 1, 2, 3, 7, 8, 9, 4, 5, 6] rfl
  have hD : va_D A (wdBx_pourInto q_this q_row q_start q_end q_pools q_pools_totals q_pools_many q_shades q_shades_tint q_shades_many r_weight r_spread r_widest r_pools_means r_shades_rank r_shades_keys c_row c_start c_end c_pools_totals c_pools_many c_shades_tint c_shades_many n_row n_start n_end n_pools_totals n_pools_many n_shades_tint n_shades_many f_size f_row f_start f_end f_pools_size_13 f_pools_totals_14 f_pools_many_15 f_shades_size f_shades_stale f_shades_tint f_shades_many) := hD.sub [0, 1, 2, 3, 7, 8, 9, 4, 5, 6] (by decide) rfl
  refine lv_iconst (v := 0) hx hb dBx_pourInto_8 (by decide) ?_
  refine lv_istore_n (lv' := [(3, .int 0), (0, .ref q_this), (1, .ref q_pools), (2, .ref q_shades)]) hx hb dBx_pourInto_9 rfl hl (by decide) rfl (fun ls hl => ?_)
  rw [eK10, eG] at hv
  exact hv _ _ _ hP hD hS (lv_sub hl [1, 2, 3, 0] rfl)
abbrev wdCa_startPicture (q_this q_below r_ahead r_wish : Nat) (c_below : ClassId) (n_below : Nat) (f_below : Nat → Int32) : va_W := [(q_this, .inr (1, [.ref r_ahead, .ref q_below, .ref r_wish])), (q_below, .inl (c_below, n_below, .inl f_below))]
set_option maxHeartbeats 4000000 in
set_option maxRecDepth 100000 in
theorem metCa_startPicture (l : Launch) (dC : Nat → ClassId) (dI : Nat → Nat → Nat) (q_this q_below r_ahead r_wish : Nat) (c_below : ClassId) (n_below : Nat) (sz : Nat) (f_below : Nat → Int32) {post : (Nat → Int32) → Prop} (hw : wpCa_startPicture n_below f_below post) : Met l yCa_startPicture (.code yCa_startPicture bCa_startPicture 1 none :: BIG) ({ frames := 1, cells := 0, slots := 0, locals := 23 }) (va_Pc [.ref q_this] (gx_pre (dC, dI) vwCl (wdCa_startPicture q_this q_below r_ahead r_wish c_below n_below f_below) [(c_below, .int)] sz)) (va_Qv (fun (u : (Nat → Int32)) => post u) (gx_B (dC, dI) vwCl (va_A (wdCa_startPicture q_this q_below r_ahead r_wish c_below n_below f_below) sz) (fun (u : (Nat → Int32)) => (wdCa_startPicture q_this q_below r_ahead r_wish c_below n_below u))) (va_A (wdCa_startPicture q_this q_below r_ahead r_wish c_below n_below f_below) sz)) 0 0 (va_A (wdCa_startPicture q_this q_below r_ahead r_wish c_below n_below f_below) sz) := by
  refine Met.ofW (cc := bCa_startPicture) (maxL := 1) (ret := none) (by decide) rfl ?_
  intro p e s m args below meth c s₁ B hml hv
  obtain ⟨rfl, hsz, hP, hK, hD0, hZ⟩ := hv
  have hx := B.exec
  have hb := B.bytes
  have hr := B.returns
  have hts := atoms_spec (ws := (.code yCa_startPicture bCa_startPicture 1 none :: BIG)) B.pre
  have hB : ∀ w ∈ BIG, w.before _ s = true := fun w h => hts w (List.mem_cons_of_mem _ h)
  have hown : s.vm.findClass RCa = some m.cls := findClass_of_methodNamed B.named
  have hlocks := B.notSynchronized
  subst hsz
  have hD := hD0.self (sz := s.heap.size)
  generalize hAe : va_A (wdCa_startPicture q_this q_below r_ahead r_wish c_below n_below f_below) s.heap.size = A at hD hZ ⊢
  have hA : ∀ q : Nat, s.heap.size ≤ q → A q := fun q h => by rw [← hAe]; exact Or.inr h
  have hS : va_S A s.heap s.heap [] := va_S.rf
  have hl := lv_entry ([.ref q_this]) (n := 1) (Nat.le_of_ble_eq_true rfl)
  rw [lg_entry_eq]
  generalize (lg_sl ([.ref q_this]) ++ List.replicate (1 - (lg_sl ([.ref q_this])).length) Slot.unset).toArray = ls at hl ⊢
  have hl : lv_has ls 1 [(0, .ref q_this)] := hl
  have hL18 := (hB _ bw198)
  unfold wpCa_startPicture at hw
  have hv := hw
  refine lv_aload_n hx hb dCa_startPicture_0 rfl (lv_at hl 0 rfl) ?_
  refine va_get (D := (dC, dI)) (ci := 1) (v := .ref q_below) (C := RCa) (T := TCa) (N := 3) hx hb hB hiCa hown hK hP 0 rfl rfl 1 (by decide) hL18 (fun _ h9 => h9) rfl dCa_startPicture_1 ?_
  refine lv_iconst (v := 0) hx hb dCa_startPicture_4 (by decide) ?_
  have hFc := va_free (wc := (wdAr_fill q_below c_below n_below f_below)) hD hS hA [1] rfl
  refine gx_v (wr := [(q_this, .inr (1, [.ref r_ahead, .ref q_below, .ref r_wish]))]) (va_runS (As := [.ref q_below, .int 0]) (rest := []) ⟨hx, hb, hml, hown, hB⟩ (metAr_fill l dC dI q_below c_below n_below s.heap.size f_below 0 hv) (va_cwS 2 hB (gx_gS bw578 bw248 bw59 bw249) rfl rfl rfl (by decide +kernel) ⟨(Nat.le_of_ble_eq_true rfl), (Nat.le_of_ble_eq_true rfl)⟩) (gx_preS (hP.sub (ws' := (wdAr_fill q_below c_below n_below f_below)) [1] rfl) (hK.sub (tys' := [(c_below, .int)]) [0] rfl) (hD.sub (ws' := (wdAr_fill q_below c_below n_below f_below)) [1] (by decide) rfl) hZ hS hFc) rfl rfl hl.1 rfl (lv_room (Nat.le_of_ble_eq_true rfl)) dCa_startPicture_5 ⟨(Nat.le_of_ble_eq_true rfl), (Nat.le_of_ble_eq_true rfl)⟩) hP hD hS hFc [1] [0] rfl rfl (by decide) (by decide) (fun u_2 H locs hv hP hD hS => ?_)
  obtain ⟨f_below_1, rfl⟩ : ∃ z, z = u_2 := ⟨_, rfl⟩
  have hP : va_P (dC, dI) vwCl (wdCa_startPicture q_this q_below r_ahead r_wish c_below n_below f_below_1) H := hP.sub [0, 1] rfl
  have hD : va_D A (wdCa_startPicture q_this q_below r_ahead r_wish c_below n_below f_below_1) := hD.sub [0, 1] (by decide) rfl
  exact W.vret hx hb hr (fun t ht hW => ⟨⟨f_below_1, rfl, hv, by rw [ht]; exact hP, hD⟩, hS.F ht⟩) hS.2.2 dCa_startPicture_8
abbrev wdCa_startRow (q_this q_ahead r_below r_wish : Nat) (c_ahead : ClassId) (n_ahead : Nat) (f_ahead : Nat → Int32) : va_W := [(q_this, .inr (1, [.ref q_ahead, .ref r_below, .ref r_wish])), (q_ahead, .inl (c_ahead, n_ahead, .inl f_ahead))]
set_option maxHeartbeats 4000000 in
set_option maxRecDepth 100000 in
theorem metCa_startRow (l : Launch) (dC : Nat → ClassId) (dI : Nat → Nat → Nat) (q_this q_ahead r_below r_wish : Nat) (c_ahead : ClassId) (n_ahead : Nat) (sz : Nat) (f_ahead : Nat → Int32) {post : (Nat → Int32) → Prop} (hw : wpCa_startRow n_ahead f_ahead post) : Met l yCa_startRow (.code yCa_startRow bCa_startRow 1 none :: BIG) ({ frames := 1, cells := 0, slots := 0, locals := 23 }) (va_Pc [.ref q_this] (gx_pre (dC, dI) vwCl (wdCa_startRow q_this q_ahead r_below r_wish c_ahead n_ahead f_ahead) [(c_ahead, .int)] sz)) (va_Qv (fun (u : (Nat → Int32)) => post u) (gx_B (dC, dI) vwCl (va_A (wdCa_startRow q_this q_ahead r_below r_wish c_ahead n_ahead f_ahead) sz) (fun (u : (Nat → Int32)) => (wdCa_startRow q_this q_ahead r_below r_wish c_ahead n_ahead u))) (va_A (wdCa_startRow q_this q_ahead r_below r_wish c_ahead n_ahead f_ahead) sz)) 0 0 (va_A (wdCa_startRow q_this q_ahead r_below r_wish c_ahead n_ahead f_ahead) sz) := by
  refine Met.ofW (cc := bCa_startRow) (maxL := 1) (ret := none) (by decide) rfl ?_
  intro p e s m args below meth c s₁ B hml hv
  obtain ⟨rfl, hsz, hP, hK, hD0, hZ⟩ := hv
  have hx := B.exec
  have hb := B.bytes
  have hr := B.returns
  have hts := atoms_spec (ws := (.code yCa_startRow bCa_startRow 1 none :: BIG)) B.pre
  have hB : ∀ w ∈ BIG, w.before _ s = true := fun w h => hts w (List.mem_cons_of_mem _ h)
  have hown : s.vm.findClass RCa = some m.cls := findClass_of_methodNamed B.named
  have hlocks := B.notSynchronized
  subst hsz
  have hD := hD0.self (sz := s.heap.size)
  generalize hAe : va_A (wdCa_startRow q_this q_ahead r_below r_wish c_ahead n_ahead f_ahead) s.heap.size = A at hD hZ ⊢
  have hA : ∀ q : Nat, s.heap.size ≤ q → A q := fun q h => by rw [← hAe]; exact Or.inr h
  have hS : va_S A s.heap s.heap [] := va_S.rf
  have hl := lv_entry ([.ref q_this]) (n := 1) (Nat.le_of_ble_eq_true rfl)
  rw [lg_entry_eq]
  generalize (lg_sl ([.ref q_this]) ++ List.replicate (1 - (lg_sl ([.ref q_this])).length) Slot.unset).toArray = ls at hl ⊢
  have hl : lv_has ls 1 [(0, .ref q_this)] := hl
  have hL9 := (hB _ bw197)
  unfold wpCa_startRow at hw
  have hv := hw
  refine lv_aload_n hx hb dCa_startRow_0 rfl (lv_at hl 0 rfl) ?_
  refine va_get (D := (dC, dI)) (ci := 1) (v := .ref q_ahead) (C := RCa) (T := TCa) (N := 3) hx hb hB hiCa hown hK hP 0 rfl rfl 0 (by decide) hL9 (fun _ h9 => h9) rfl dCa_startRow_1 ?_
  refine lv_iconst (v := 0) hx hb dCa_startRow_4 (by decide) ?_
  have hFc := va_free (wc := (wdAr_fill q_ahead c_ahead n_ahead f_ahead)) hD hS hA [1] rfl
  refine gx_v (wr := [(q_this, .inr (1, [.ref q_ahead, .ref r_below, .ref r_wish]))]) (va_runS (As := [.ref q_ahead, .int 0]) (rest := []) ⟨hx, hb, hml, hown, hB⟩ (metAr_fill l dC dI q_ahead c_ahead n_ahead s.heap.size f_ahead 0 hv) (va_cwS 2 hB (gx_gS bw578 bw248 bw59 bw249) rfl rfl rfl (by decide +kernel) ⟨(Nat.le_of_ble_eq_true rfl), (Nat.le_of_ble_eq_true rfl)⟩) (gx_preS (hP.sub (ws' := (wdAr_fill q_ahead c_ahead n_ahead f_ahead)) [1] rfl) (hK.sub (tys' := [(c_ahead, .int)]) [0] rfl) (hD.sub (ws' := (wdAr_fill q_ahead c_ahead n_ahead f_ahead)) [1] (by decide) rfl) hZ hS hFc) rfl rfl hl.1 rfl (lv_room (Nat.le_of_ble_eq_true rfl)) dCa_startRow_5 ⟨(Nat.le_of_ble_eq_true rfl), (Nat.le_of_ble_eq_true rfl)⟩) hP hD hS hFc [1] [0] rfl rfl (by decide) (by decide) (fun u_2 H locs hv hP hD hS => ?_)
  obtain ⟨f_ahead_1, rfl⟩ : ∃ z, z = u_2 := ⟨_, rfl⟩
  have hP : va_P (dC, dI) vwCl (wdCa_startRow q_this q_ahead r_below r_wish c_ahead n_ahead f_ahead_1) H := hP.sub [0, 1] rfl
  have hD : va_D A (wdCa_startRow q_this q_ahead r_below r_wish c_ahead n_ahead f_ahead_1) := hD.sub [0, 1] (by decide) rfl
  exact W.vret hx hb hr (fun t ht hW => ⟨⟨f_ahead_1, rfl, hv, by rw [ht]; exact hP, hD⟩, hS.F ht⟩) hS.2.2 dCa_startRow_8
abbrev wdCL_within  : va_W := []
set_option maxHeartbeats 4000000 in
set_option maxRecDepth 100000 in
theorem metCL_within (l : Launch) (dC : Nat → ClassId) (dI : Nat → Nat → Nat) (sz : Nat) (x0 : Int32) (x1 : Int32) (x2 : Int32) {post : Int32 → Prop} (hw : wpCL_within x0 x1 x2 post) : Met l yCL_within (.code yCL_within bCL_within 3 (some .int) :: BIG) ({ frames := 1, cells := 0, slots := 0, locals := 21 }) (va_Pc [.int x0, .int x1, .int x2] (gx_rpre (dC, dI) vwCl wdCL_within [] sz)) (va_Qi (fun r (u : Unit) => post r ) (fun _ _ => True) (fun q : Nat => sz ≤ q)) 0 0 (fun q : Nat => sz ≤ q) := by
  refine Met.ofW (cc := bCL_within) (maxL := 3) (ret := (some .int)) (by decide) rfl ?_
  intro p e s m args below meth c s₁ B hml hv
  obtain ⟨rfl, hsz, hP, hK, hZ⟩ := hv
  have hx := B.exec
  have hb := B.bytes
  have hr := B.returns
  have hts := atoms_spec (ws := (.code yCL_within bCL_within 3 (some .int) :: BIG)) B.pre
  have hB : ∀ w ∈ BIG, w.before _ s = true := fun w h => hts w (List.mem_cons_of_mem _ h)
  have hown : s.vm.findClass RCL = some m.cls := findClass_of_methodNamed B.named
  have hlocks := B.notSynchronized
  subst hsz
  have hA : ∀ q : Nat, s.heap.size ≤ q → (fun q : Nat => s.heap.size ≤ q) q := fun _ h => h
  have hS : va_S (fun q : Nat => s.heap.size ≤ q) s.heap s.heap [] := va_S.rf
  have hl := lv_entry ([.int x0, .int x1, .int x2]) (n := 3) (Nat.le_of_ble_eq_true rfl)
  rw [lg_entry_eq]
  generalize (lg_sl ([.int x0, .int x1, .int x2]) ++ List.replicate (3 - (lg_sl ([.int x0, .int x1, .int x2])).length) Slot.unset).toArray = ls at hl ⊢
  have hl : lv_has ls 3 [(0, .int x0), (1, .int x1), (2, .int x2)] := hl
  unfold wpCL_within at hw
  have hv := hw
  refine lv_iload_n hx hb dCL_within_0 rfl (lv_at hl 1 rfl) ?_
  refine lv_iload_n hx hb dCL_within_1 rfl (lv_at hl 2 rfl) ?_
  refine lv_iload_n hx hb dCL_within_2 rfl (lv_at hl 0 rfl) ?_
  refine va_mmin hx hb (by rw [hml]; exact hl.1.symm) hown (hB _ bw73) (hB _ bw74) (hB _ bw45) (hB _ bw75) (Nat.le_of_ble_eq_true rfl) (Nat.le_of_ble_eq_true rfl) (Nat.le_of_ble_eq_true rfl) (Nat.le_of_ble_eq_true rfl) dCL_within_3 ?_
  refine va_mmax hx hb (by rw [hml]; exact hl.1.symm) hown (hB _ bw76) (hB _ bw77) (hB _ bw45) (hB _ bw78) (Nat.le_of_ble_eq_true rfl) (Nat.le_of_ble_eq_true rfl) (Nat.le_of_ble_eq_true rfl) (Nat.le_of_ble_eq_true rfl) dCL_within_6 ?_
  exact W.iret (v := if x1 < (if x0 < x2 then x0 else x2) then if x0 < x2 then x0 else x2 else x1) hx hb hr (fun t ht hW => ⟨⟨_, (), rfl, hv, trivial⟩, hS.F ht⟩) hS.2.2 dCL_within_9
abbrev wdCa_broughtIn (q_this q_wish r_ahead r_below : Nat) (c_wish : ClassId) (n_wish : Nat) (f_wish : Nat → Int32) : va_W := [(q_this, .inr (1, [.ref r_ahead, .ref r_below, .ref q_wish])), (q_wish, .inl (c_wish, n_wish, .inl f_wish))]
set_option maxHeartbeats 4000000 in
set_option maxRecDepth 100000 in
theorem metCa_broughtIn (l : Launch) (dC : Nat → ClassId) (dI : Nat → Nat → Nat) (q_this q_wish r_ahead r_below : Nat) (c_wish : ClassId) (n_wish : Nat) (sz : Nat) (f_wish : Nat → Int32) (x1 : Int32) {post : Int32 → Prop} (hw : wpCa_broughtIn n_wish f_wish x1 post) : Met l yCa_broughtIn (.code yCa_broughtIn bCa_broughtIn 2 (some .int) :: BIG) ({ frames := 2, cells := 0, slots := 0, locals := 43 }) (va_Pc [.ref q_this, .int x1] (gx_rpre (dC, dI) vwCl (wdCa_broughtIn q_this q_wish r_ahead r_below c_wish n_wish f_wish) [(c_wish, .int)] sz)) (va_Qi (fun r (u : Unit) => post r ) (fun _ _ => True) (fun q : Nat => sz ≤ q)) 0 0 (fun q : Nat => sz ≤ q) := by
  refine Met.ofW (cc := bCa_broughtIn) (maxL := 2) (ret := (some .int)) (by decide) rfl ?_
  intro p e s m args below meth c s₁ B hml hv
  obtain ⟨rfl, hsz, hP, hK, hZ⟩ := hv
  have hx := B.exec
  have hb := B.bytes
  have hr := B.returns
  have hts := atoms_spec (ws := (.code yCa_broughtIn bCa_broughtIn 2 (some .int) :: BIG)) B.pre
  have hB : ∀ w ∈ BIG, w.before _ s = true := fun w h => hts w (List.mem_cons_of_mem _ h)
  have hown : s.vm.findClass RCa = some m.cls := findClass_of_methodNamed B.named
  have hlocks := B.notSynchronized
  subst hsz
  have hA : ∀ q : Nat, s.heap.size ≤ q → (fun q : Nat => s.heap.size ≤ q) q := fun _ h => h
  have hS : va_S (fun q : Nat => s.heap.size ≤ q) s.heap s.heap [] := va_S.rf
  have hl := lv_entry ([.ref q_this, .int x1]) (n := 2) (Nat.le_of_ble_eq_true rfl)
  rw [lg_entry_eq]
  generalize (lg_sl ([.ref q_this, .int x1]) ++ List.replicate (2 - (lg_sl ([.ref q_this, .int x1])).length) Slot.unset).toArray = ls at hl ⊢
  have hl : lv_has ls 2 [(0, .ref q_this), (1, .int x1)] := hl
  have hL15 := (hB _ bw199)
  unfold wpCa_broughtIn at hw
  have hv := hw
  refine lv_aload_n hx hb dCa_broughtIn_0 rfl (lv_at hl 0 rfl) ?_
  refine va_get (D := (dC, dI)) (ci := 1) (v := .ref q_wish) (C := RCa) (T := TCa) (N := 3) hx hb hB hiCa hown hK hP 0 rfl rfl 2 (by decide) hL15 (fun _ h9 => h9) rfl dCa_broughtIn_1 ?_
  refine lv_iload_n hx hb dCa_broughtIn_4 rfl (lv_at hl 1 rfl) ?_
  obtain ⟨h_1, hv⟩ := hv
  refine va_iald hx hb hK hP 1 0 rfl rfl h_1 dCa_broughtIn_5 ?_
  refine lv_iconst (v := 0) hx hb dCa_broughtIn_6 (by decide) ?_
  refine lv_sipush (v := 255) hx hb dCa_broughtIn_7 (by decide) ?_
  refine gx_ri (va_runSN (As := [.int (f_wish x1.toNatClampNeg), .int 0, .int 255]) (rest := []) ⟨hx, hb, hml, hown, hB⟩ (metCL_within l dC dI s.heap.size (f_wish x1.toNatClampNeg) 0 255 hv) ⟨va_cnB 3 hB (gx_gN bw72) rfl rfl rfl (hZ.1 _ (List.mem_of_getElem? (i := 25) rfl)) (hB _ bw44) (by decide +kernel) ⟨(Nat.le_of_ble_eq_true rfl), (Nat.le_of_ble_eq_true rfl)⟩, (hB _ bw71), trivial⟩ (gx_rpreS (hP.sub (ws' := wdCL_within) [] rfl) (hK.sub (tys' := []) [] rfl) hZ hS hA) rfl rfl hl.1 rfl (lv_room (Nat.le_of_ble_eq_true rfl)) dCa_broughtIn_10 ⟨(Nat.le_of_ble_eq_true rfl), (Nat.le_of_ble_eq_true rfl)⟩) hP hS hA (fun r_2 H locs hv hP hS => ?_)
  exact W.iret (v := r_2) hx hb hr (fun t ht hW => ⟨⟨_, (), rfl, hv, trivial⟩, hS.F ht⟩) hS.2.2 dCa_broughtIn_13
abbrev wdCL_square  : va_W := []
set_option maxHeartbeats 4000000 in
set_option maxRecDepth 100000 in
theorem metCL_square (l : Launch) (dC : Nat → ClassId) (dI : Nat → Nat → Nat) (sz : Nat) (x0 : Int32) {post : Int32 → Prop} (hw : wpCL_square x0 post) : Met l yCL_square (.code yCL_square bCL_square 1 (some .int) :: BIG) ({ frames := 0, cells := 0, slots := 0, locals := 0 }) (va_Pc [.int x0] (gx_rpre (dC, dI) vwCl wdCL_square [] sz)) (va_Qi (fun r (u : Unit) => post r ) (fun _ _ => True) (fun q : Nat => sz ≤ q)) 0 0 (fun q : Nat => sz ≤ q) := by
  refine Met.ofW (cc := bCL_square) (maxL := 1) (ret := (some .int)) (by decide) rfl ?_
  intro p e s m args below meth c s₁ B hml hv
  obtain ⟨rfl, hsz, hP, hK, hZ⟩ := hv
  have hx := B.exec
  have hb := B.bytes
  have hr := B.returns
  have hts := atoms_spec (ws := (.code yCL_square bCL_square 1 (some .int) :: BIG)) B.pre
  have hB : ∀ w ∈ BIG, w.before _ s = true := fun w h => hts w (List.mem_cons_of_mem _ h)
  have hown : s.vm.findClass RCL = some m.cls := findClass_of_methodNamed B.named
  have hlocks := B.notSynchronized
  subst hsz
  have hA : ∀ q : Nat, s.heap.size ≤ q → (fun q : Nat => s.heap.size ≤ q) q := fun _ h => h
  have hS : va_S (fun q : Nat => s.heap.size ≤ q) s.heap s.heap [] := va_S.rf
  have hl := lv_entry ([.int x0]) (n := 1) (Nat.le_of_ble_eq_true rfl)
  rw [lg_entry_eq]
  generalize (lg_sl ([.int x0]) ++ List.replicate (1 - (lg_sl ([.int x0])).length) Slot.unset).toArray = ls at hl ⊢
  have hl : lv_has ls 1 [(0, .int x0)] := hl
  unfold wpCL_square at hw
  have hv := hw
  refine lv_iload_n hx hb dCL_square_0 rfl (lv_at hl 0 rfl) ?_
  refine lv_iload_n hx hb dCL_square_1 rfl (lv_at hl 0 rfl) ?_
  refine lv_imul hx hb dCL_square_2 ?_
  exact W.iret (v := x0 * x0) hx hb hr (fun t ht hW => ⟨⟨_, (), rfl, hv, trivial⟩, hS.F ht⟩) hS.2.2 dCL_square_3
abbrev wdPa_closest (q_this q_levels : Nat) (c_levels : ClassId) (n_levels : Nat) (f_size : Int32) (f_levels : Nat → Int32) : va_W := [(q_this, .inr (4, [.ref q_levels, .int f_size])), (q_levels, .inl (c_levels, n_levels, .inl f_levels))]
set_option maxHeartbeats 4000000 in
set_option maxRecDepth 100000 in
theorem metPa_closest (l : Launch) (dC : Nat → ClassId) (dI : Nat → Nat → Nat) (q_this q_levels : Nat) (c_levels : ClassId) (n_levels : Nat) (sz : Nat) (f_size : Int32) (f_levels : Nat → Int32) (x1 : Int32) (x2 : Int32) (x3 : Int32) (x4 : Int32) {post : Int32 → Prop} (hw : wpPa_closest n_levels f_size f_levels x1 x2 x3 x4 post) : Met l yPa_closest (.code yPa_closest bPa_closest 10 (some .int) :: BIG) ({ frames := 1, cells := 0, slots := 0, locals := 20 }) (va_Pc [.ref q_this, .int x1, .int x2, .int x3, .int x4] (gx_rpre (dC, dI) vwCl (wdPa_closest q_this q_levels c_levels n_levels f_size f_levels) [(c_levels, .int)] sz)) (va_Qi (fun r (u : Unit) => post r ) (fun _ _ => True) (fun q : Nat => sz ≤ q)) 0 0 (fun q : Nat => sz ≤ q) := by
  refine Met.ofW (cc := bPa_closest) (maxL := 10) (ret := (some .int)) (by decide) rfl ?_
  intro p e s m args below meth c s₁ B hml hv
  obtain ⟨rfl, hsz, hP, hK, hZ⟩ := hv
  have hx := B.exec
  have hb := B.bytes
  have hr := B.returns
  have hts := atoms_spec (ws := (.code yPa_closest bPa_closest 10 (some .int) :: BIG)) B.pre
  have hB : ∀ w ∈ BIG, w.before _ s = true := fun w h => hts w (List.mem_cons_of_mem _ h)
  have hown : s.vm.findClass RPa = some m.cls := findClass_of_methodNamed B.named
  have hlocks := B.notSynchronized
  subst hsz
  have hA : ∀ q : Nat, s.heap.size ≤ q → (fun q : Nat => s.heap.size ≤ q) q := fun _ h => h
  have hS : va_S (fun q : Nat => s.heap.size ≤ q) s.heap s.heap [] := va_S.rf
  have hl := lv_entry ([.ref q_this, .int x1, .int x2, .int x3, .int x4]) (n := 10) (Nat.le_of_ble_eq_true rfl)
  rw [lg_entry_eq]
  generalize (lg_sl ([.ref q_this, .int x1, .int x2, .int x3, .int x4]) ++ List.replicate (10 - (lg_sl ([.ref q_this, .int x1, .int x2, .int x3, .int x4])).length) Slot.unset).toArray = ls at hl ⊢
  have hl : lv_has ls 10 [(0, .ref q_this), (1, .int x1), (2, .int x2), (3, .int x3), (4, .int x4)] := hl
  have hL9 := (hB _ bw163)
  have hL15 := (hB _ bw166)
  refine gx_abs (fun G eG => ?_)
  obtain ⟨K10, eK10⟩ : ∃ K : Int32 → Int32 → Int32 → Prop, K = fun v5 v6 v7 => ∀ (H : Heap) (locs : List Loc) (ls : Array Slot), va_P (dC, dI) vwCl (wdPa_closest q_this q_levels c_levels n_levels f_size f_levels) H → va_S (fun q : Nat => s.heap.size ≤ q) s.heap H locs → lv_has ls 10 [(0, .ref q_this), (1, .int x1), (2, .int x2), (3, .int x3), (4, .int x4), (5, .int v5), (6, .int v6), (7, .int v7)] → G H locs 0 0 (F0 m 10 ls []) := ⟨_, rfl⟩
  have j111 : ∀ (v5 : Int32) (v6 : Int32) (v7 : Int32), vcPa_closest_111 n_levels f_size f_levels x1 x2 x3 x4 K10 post v5 v6 v7 → ∀ (H : Heap) (locs : List Loc) (ls : Array Slot), va_P (dC, dI) vwCl (wdPa_closest q_this q_levels c_levels n_levels f_size f_levels) H → va_S (fun q : Nat => s.heap.size ≤ q) s.heap H locs → lv_has ls 10 [(0, .ref q_this), (1, .int x1), (2, .int x2), (3, .int x3), (4, .int x4), (5, .int v5), (6, .int v6), (7, .int v7)] → G H locs 0 0 (F0 m 111 ls []) := by
    intro v5 v6 v7 hv H locs ls hP hS hl
    rw [eG]
    unfold vcPa_closest_111 at hv
    refine lv_iinc (v := v7 + 1) (lv' := [(7, .int (v7 + 1)), (0, .ref q_this), (1, .int x1), (2, .int x2), (3, .int x3), (4, .int x4), (5, .int v5), (6, .int v6)]) hx hb dPa_closest_111 hl (k := 7) rfl rfl (by decide) rfl (fun ls hl => ?_)
    refine lv_goto (tgt := 10) hx hb dPa_closest_114 (by decide) ?_
    rw [eK10, eG] at hv
    exact hv _ _ _ hP hS (lv_sub hl [1, 2, 3, 4, 5, 6, 7, 0] rfl)
  rw [eG] at j111
  unfold wpPa_closest at hw
  have hv := hw K10
  have hv := hv (by
    intro v5 v6 v7 hv
    rw [eK10]
    intro H locs ls hP hS hl
    rw [eG]
    unfold vcPa_closest_10 at hv
    refine lv_iload hx hb dPa_closest_10 (lv_at hl 7 rfl) ?_
    refine lv_aload_n hx hb dPa_closest_12 rfl (lv_at hl 0 rfl) ?_
    refine va_get (D := (dC, dI)) (ci := 4) (v := .int f_size) (C := RPa) (T := TPa) (N := 2) hx hb hB hiPa hown hK hP 0 rfl rfl 1 (by decide) hL15 (fun _ h9 => h9) rfl dPa_closest_13 ?_
    refine lv_icmp_ge (tgt := 117) hx hb dPa_closest_16 (by decide) (fun c_1 => ?_) (fun c_1 => ?_)
    · have hv := hv.1 c_1
      refine lv_iload hx hb dPa_closest_117 (lv_at hl 5 rfl) ?_
      exact W.iret (v := v5) hx hb hr (fun t ht hW => ⟨⟨_, (), rfl, hv, trivial⟩, hS.F ht⟩) hS.2.2 dPa_closest_119
    · have hv := hv.2 c_1
      refine lv_iload hx hb dPa_closest_19 (lv_at hl 7 rfl) ?_
      refine lv_iconst (v := 4) hx hb dPa_closest_21 (by decide) ?_
      refine lv_imul hx hb dPa_closest_22 ?_
      refine lv_topi (fun v8_2 ev8_2 => ?_)
      have hv := hv v8_2 ev8_2
      refine lv_istore (lv' := [(8, .int v8_2), (0, .ref q_this), (1, .int x1), (2, .int x2), (3, .int x3), (4, .int x4), (5, .int v5), (6, .int v6), (7, .int v7)]) hx hb dPa_closest_23 hl (by decide) rfl (fun ls hl => ?_)
      refine lv_iload_n hx hb dPa_closest_25 rfl (lv_at hl 2 rfl) ?_
      refine lv_aload_n hx hb dPa_closest_26 rfl (lv_at hl 1 rfl) ?_
      refine va_get (D := (dC, dI)) (ci := 4) (v := .ref q_levels) (C := RPa) (T := TPa) (N := 2) hx hb hB hiPa hown hK hP 0 rfl rfl 0 (by decide) hL9 (fun _ h9 => h9) rfl dPa_closest_27 ?_
      refine lv_iload hx hb dPa_closest_30 (lv_at hl 0 rfl) ?_
      obtain ⟨h_3, hv⟩ := hv
      refine va_iald hx hb hK hP 1 0 rfl rfl h_3 dPa_closest_32 ?_
      refine lv_isub hx hb dPa_closest_33 ?_
      refine gx_ri (va_runSN (As := [.int (x1 - (f_levels v8_2.toNatClampNeg))]) (rest := []) ⟨hx, hb, hml, hown, hB⟩ (metCL_square l dC dI H.size (x1 - (f_levels v8_2.toNatClampNeg)) hv) ⟨va_cnB 1 hB (gx_gN bw458) rfl rfl rfl (hZ.1 _ (List.mem_of_getElem? (i := 19) rfl)) (hB _ bw44) (by decide +kernel) ⟨(Nat.le_of_ble_eq_true rfl), (Nat.le_of_ble_eq_true rfl)⟩, (hB _ bw457), trivial⟩ (gx_rpreS (hP.sub (ws' := wdCL_square) [] rfl) (hK.sub (tys' := []) [] rfl) hZ hS hA) rfl rfl hl.1 rfl (lv_room (Nat.le_of_ble_eq_true rfl)) dPa_closest_34 ⟨(Nat.le_of_ble_eq_true rfl), (Nat.le_of_ble_eq_true rfl)⟩) hP hS hA (fun r_4 H locs hv hP hS => ?_)
      refine lv_iload_n hx hb dPa_closest_37 rfl (lv_at hl 3 rfl) ?_
      refine lv_aload_n hx hb dPa_closest_38 rfl (lv_at hl 1 rfl) ?_
      refine va_get (D := (dC, dI)) (ci := 4) (v := .ref q_levels) (C := RPa) (T := TPa) (N := 2) hx hb hB hiPa hown hK hP 0 rfl rfl 0 (by decide) hL9 (fun _ h9 => h9) rfl dPa_closest_39 ?_
      refine lv_iload hx hb dPa_closest_42 (lv_at hl 0 rfl) ?_
      refine lv_iconst (v := 1) hx hb dPa_closest_44 (by decide) ?_
      refine lv_iadd hx hb dPa_closest_45 ?_
      obtain ⟨h_6, hv⟩ := hv
      refine va_iald hx hb hK hP 1 0 rfl rfl h_6 dPa_closest_46 ?_
      refine lv_isub hx hb dPa_closest_47 ?_
      refine gx_ri (va_runSN (As := [.int (x2 - (f_levels (v8_2 + 1).toNatClampNeg))]) (rest := [.int r_4]) ⟨hx, hb, hml, hown, hB⟩ (metCL_square l dC dI H.size (x2 - (f_levels (v8_2 + 1).toNatClampNeg)) hv) ⟨va_cnB 1 hB (gx_gN bw458) rfl rfl rfl (hZ.1 _ (List.mem_of_getElem? (i := 19) rfl)) (hB _ bw44) (by decide +kernel) ⟨(Nat.le_of_ble_eq_true rfl), (Nat.le_of_ble_eq_true rfl)⟩, (hB _ bw457), trivial⟩ (gx_rpreS (hP.sub (ws' := wdCL_square) [] rfl) (hK.sub (tys' := []) [] rfl) hZ hS hA) rfl rfl hl.1 rfl (lv_room (Nat.le_of_ble_eq_true rfl)) dPa_closest_48 ⟨(Nat.le_of_ble_eq_true rfl), (Nat.le_of_ble_eq_true rfl)⟩) hP hS hA (fun r_7 H locs hv hP hS => ?_)
      refine lv_iadd hx hb dPa_closest_51 ?_
      refine lv_topi (fun v9_9 ev9_9 => ?_)
      have hv := hv v9_9 ev9_9
      refine lv_istore (lv' := [(9, .int v9_9), (8, .int v8_2), (0, .ref q_this), (1, .int x1), (2, .int x2), (3, .int x3), (4, .int x4), (5, .int v5), (6, .int v6), (7, .int v7)]) hx hb dPa_closest_52 hl (by decide) rfl (fun ls hl => ?_)
      refine lv_iload hx hb dPa_closest_54 (lv_at hl 0 rfl) ?_
      refine lv_iload hx hb dPa_closest_56 (lv_at hl 8 rfl) ?_
      refine lv_icmp_ge (tgt := 111) hx hb dPa_closest_58 (by decide) (fun c_10 => ?_) (fun c_10 => ?_)
      · have hv := hv.1 c_10
        exact j111 v5 v6 v7 hv _ _ _ hP hS (lv_sub hl [2, 3, 4, 5, 6, 7, 8, 9] rfl)
      · have hv := hv.2 c_10
        refine lv_iload hx hb dPa_closest_61 (lv_at hl 0 rfl) ?_
        refine lv_iload_n hx hb dPa_closest_63 rfl (lv_at hl 5 rfl) ?_
        refine lv_aload_n hx hb dPa_closest_64 rfl (lv_at hl 2 rfl) ?_
        refine va_get (D := (dC, dI)) (ci := 4) (v := .ref q_levels) (C := RPa) (T := TPa) (N := 2) hx hb hB hiPa hown hK hP 0 rfl rfl 0 (by decide) hL9 (fun _ h9 => h9) rfl dPa_closest_65 ?_
        refine lv_iload hx hb dPa_closest_68 (lv_at hl 1 rfl) ?_
        refine lv_iconst (v := 2) hx hb dPa_closest_70 (by decide) ?_
        refine lv_iadd hx hb dPa_closest_71 ?_
        obtain ⟨h_11, hv⟩ := hv
        refine va_iald hx hb hK hP 1 0 rfl rfl h_11 dPa_closest_72 ?_
        refine lv_isub hx hb dPa_closest_73 ?_
        refine gx_ri (va_runSN (As := [.int (x3 - (f_levels (v8_2 + 2).toNatClampNeg))]) (rest := [.int v9_9]) ⟨hx, hb, hml, hown, hB⟩ (metCL_square l dC dI H.size (x3 - (f_levels (v8_2 + 2).toNatClampNeg)) hv) ⟨va_cnB 1 hB (gx_gN bw458) rfl rfl rfl (hZ.1 _ (List.mem_of_getElem? (i := 19) rfl)) (hB _ bw44) (by decide +kernel) ⟨(Nat.le_of_ble_eq_true rfl), (Nat.le_of_ble_eq_true rfl)⟩, (hB _ bw457), trivial⟩ (gx_rpreS (hP.sub (ws' := wdCL_square) [] rfl) (hK.sub (tys' := []) [] rfl) hZ hS hA) rfl rfl hl.1 rfl (lv_room (Nat.le_of_ble_eq_true rfl)) dPa_closest_74 ⟨(Nat.le_of_ble_eq_true rfl), (Nat.le_of_ble_eq_true rfl)⟩) hP hS hA (fun r_12 H locs hv hP hS => ?_)
        refine lv_iload hx hb dPa_closest_77 (lv_at hl 6 rfl) ?_
        refine lv_aload_n hx hb dPa_closest_79 rfl (lv_at hl 2 rfl) ?_
        refine va_get (D := (dC, dI)) (ci := 4) (v := .ref q_levels) (C := RPa) (T := TPa) (N := 2) hx hb hB hiPa hown hK hP 0 rfl rfl 0 (by decide) hL9 (fun _ h9 => h9) rfl dPa_closest_80 ?_
        refine lv_iload hx hb dPa_closest_83 (lv_at hl 1 rfl) ?_
        refine lv_iconst (v := 3) hx hb dPa_closest_85 (by decide) ?_
        refine lv_iadd hx hb dPa_closest_86 ?_
        obtain ⟨h_14, hv⟩ := hv
        refine va_iald hx hb hK hP 1 0 rfl rfl h_14 dPa_closest_87 ?_
        refine lv_isub hx hb dPa_closest_88 ?_
        refine gx_ri (va_runSN (As := [.int (x4 - (f_levels (v8_2 + 3).toNatClampNeg))]) (rest := [.int r_12, .int v9_9]) ⟨hx, hb, hml, hown, hB⟩ (metCL_square l dC dI H.size (x4 - (f_levels (v8_2 + 3).toNatClampNeg)) hv) ⟨va_cnB 1 hB (gx_gN bw458) rfl rfl rfl (hZ.1 _ (List.mem_of_getElem? (i := 19) rfl)) (hB _ bw44) (by decide +kernel) ⟨(Nat.le_of_ble_eq_true rfl), (Nat.le_of_ble_eq_true rfl)⟩, (hB _ bw457), trivial⟩ (gx_rpreS (hP.sub (ws' := wdCL_square) [] rfl) (hK.sub (tys' := []) [] rfl) hZ hS hA) rfl rfl hl.1 rfl (lv_room (Nat.le_of_ble_eq_true rfl)) dPa_closest_89 ⟨(Nat.le_of_ble_eq_true rfl), (Nat.le_of_ble_eq_true rfl)⟩) hP hS hA (fun r_15 H locs hv hP hS => ?_)
        refine lv_iadd hx hb dPa_closest_92 ?_
        refine lv_iadd hx hb dPa_closest_93 ?_
        refine lv_topi (fun v9_17 ev9_17 => ?_)
        have hv := hv v9_17 ev9_17
        refine lv_istore (lv' := [(9, .int v9_17), (8, .int v8_2), (0, .ref q_this), (1, .int x1), (2, .int x2), (3, .int x3), (4, .int x4), (5, .int v5), (6, .int v6), (7, .int v7)]) hx hb dPa_closest_94 hl (by decide) rfl (fun ls hl => ?_)
        refine lv_iload hx hb dPa_closest_96 (lv_at hl 0 rfl) ?_
        refine lv_iload hx hb dPa_closest_98 (lv_at hl 8 rfl) ?_
        refine lv_icmp_ge (tgt := 111) hx hb dPa_closest_100 (by decide) (fun c_18 => ?_) (fun c_18 => ?_)
        · have hv := hv.1 c_18
          exact j111 v5 v6 v7 hv _ _ _ hP hS (lv_sub hl [2, 3, 4, 5, 6, 7, 8, 9] rfl)
        · have hv := hv.2 c_18
          refine lv_iload hx hb dPa_closest_103 (lv_at hl 0 rfl) ?_
          refine lv_istore (lv' := [(6, .int v9_17), (9, .int v9_17), (8, .int v8_2), (0, .ref q_this), (1, .int x1), (2, .int x2), (3, .int x3), (4, .int x4), (5, .int v5), (7, .int v7)]) hx hb dPa_closest_105 hl (by decide) rfl (fun ls hl => ?_)
          refine lv_iload hx hb dPa_closest_107 (lv_at hl 9 rfl) ?_
          refine lv_istore (lv' := [(5, .int v7), (6, .int v9_17), (9, .int v9_17), (8, .int v8_2), (0, .ref q_this), (1, .int x1), (2, .int x2), (3, .int x3), (4, .int x4), (7, .int v7)]) hx hb dPa_closest_109 hl (by decide) rfl (fun ls hl => ?_)
          exact j111 v7 v9_17 v7 hv _ _ _ hP hS (lv_sub hl [4, 5, 6, 7, 8, 0, 1, 9] rfl))
  rw [eG]
  refine lv_iconst (v := 0) hx hb dPa_closest_0 (by decide) ?_
  refine lv_istore (lv' := [(5, .int 0), (0, .ref q_this), (1, .int x1), (2, .int x2), (3, .int x3), (4, .int x4)]) hx hb dPa_closest_1 hl (by decide) rfl (fun ls hl => ?_)
  refine lv_ldc (v := 2147483647) hx hb hown (hB _ bw482) dPa_closest_3 ?_
  refine lv_istore (lv' := [(6, .int 2147483647), (5, .int 0), (0, .ref q_this), (1, .int x1), (2, .int x2), (3, .int x3), (4, .int x4)]) hx hb dPa_closest_5 hl (by decide) rfl (fun ls hl => ?_)
  refine lv_iconst (v := 0) hx hb dPa_closest_7 (by decide) ?_
  refine lv_istore (lv' := [(7, .int 0), (6, .int 2147483647), (5, .int 0), (0, .ref q_this), (1, .int x1), (2, .int x2), (3, .int x3), (4, .int x4)]) hx hb dPa_closest_8 hl (by decide) rfl (fun ls hl => ?_)
  rw [eK10, eG] at hv
  exact hv _ _ _ hP hS (lv_sub hl [3, 4, 5, 6, 7, 2, 1, 0] rfl)
abbrev wdCa_choose (q_this q_ahead q_below q_wish q_palette q_palette_levels : Nat) (c_ahead c_below c_wish c_palette_levels : ClassId) (n_ahead n_below n_wish n_palette_levels : Nat) (f_ahead : Nat → Int32) (f_below : Nat → Int32) (f_wish : Nat → Int32) (f_palette_size : Int32) (f_palette_levels : Nat → Int32) : va_W := [(q_this, .inr (1, [.ref q_ahead, .ref q_below, .ref q_wish])), (q_ahead, .inl (c_ahead, n_ahead, .inl f_ahead)), (q_below, .inl (c_below, n_below, .inl f_below)), (q_wish, .inl (c_wish, n_wish, .inl f_wish)), (q_palette, .inr (4, [.ref q_palette_levels, .int f_palette_size])), (q_palette_levels, .inl (c_palette_levels, n_palette_levels, .inl f_palette_levels))]
set_option maxHeartbeats 4000000 in
set_option maxRecDepth 100000 in
theorem metCa_choose (l : Launch) (dC : Nat → ClassId) (dI : Nat → Nat → Nat) (q_this q_ahead q_below q_wish q_palette q_palette_levels : Nat) (c_ahead c_below c_wish c_palette_levels : ClassId) (n_ahead n_below n_wish n_palette_levels : Nat) (sz : Nat) (f_ahead : Nat → Int32) (f_below : Nat → Int32) (f_wish : Nat → Int32) (f_palette_size : Int32) (f_palette_levels : Nat → Int32) (x1 : Int32) (x2 : Int32) {post : Int32 → (Nat → Int32) → (Nat → Int32) → (Nat → Int32) → Prop} (hw : wpCa_choose n_ahead n_below n_wish n_palette_levels f_ahead f_below f_wish f_palette_size f_palette_levels x1 x2 post) : Met l yCa_choose (.code yCa_choose bCa_choose 7 (some .int) :: BIG) ({ frames := 3, cells := 0, slots := 0, locals := 64 }) (va_Pc [.ref q_this, .int x1, .int x2, .ref q_palette] (gx_pre (dC, dI) vwCl (wdCa_choose q_this q_ahead q_below q_wish q_palette q_palette_levels c_ahead c_below c_wish c_palette_levels n_ahead n_below n_wish n_palette_levels f_ahead f_below f_wish f_palette_size f_palette_levels) [(c_ahead, .int), (c_below, .int), (c_wish, .int), (c_palette_levels, .int)] sz)) (va_Qi (fun r (u : (Nat → Int32) × (Nat → Int32) × (Nat → Int32)) => post r u.1 u.2.1 u.2.2) (gx_B (dC, dI) vwCl (va_A (wdCa_choose q_this q_ahead q_below q_wish q_palette q_palette_levels c_ahead c_below c_wish c_palette_levels n_ahead n_below n_wish n_palette_levels f_ahead f_below f_wish f_palette_size f_palette_levels) sz) (fun (u : (Nat → Int32) × (Nat → Int32) × (Nat → Int32)) => (wdCa_choose q_this q_ahead q_below q_wish q_palette q_palette_levels c_ahead c_below c_wish c_palette_levels n_ahead n_below n_wish n_palette_levels u.1 u.2.1 u.2.2 f_palette_size f_palette_levels))) (va_A (wdCa_choose q_this q_ahead q_below q_wish q_palette q_palette_levels c_ahead c_below c_wish c_palette_levels n_ahead n_below n_wish n_palette_levels f_ahead f_below f_wish f_palette_size f_palette_levels) sz)) 0 0 (va_A (wdCa_choose q_this q_ahead q_below q_wish q_palette q_palette_levels c_ahead c_below c_wish c_palette_levels n_ahead n_below n_wish n_palette_levels f_ahead f_below f_wish f_palette_size f_palette_levels) sz) := by
  refine Met.ofW (cc := bCa_choose) (maxL := 7) (ret := (some .int)) (by decide) rfl ?_
  intro p e s m args below meth c s₁ B hml hv
  obtain ⟨rfl, hsz, hP, hK, hD0, hZ⟩ := hv
  have hx := B.exec
  have hb := B.bytes
  have hr := B.returns
  have hts := atoms_spec (ws := (.code yCa_choose bCa_choose 7 (some .int) :: BIG)) B.pre
  have hB : ∀ w ∈ BIG, w.before _ s = true := fun w h => hts w (List.mem_cons_of_mem _ h)
  have hown : s.vm.findClass RCa = some m.cls := findClass_of_methodNamed B.named
  have hlocks := B.notSynchronized
  subst hsz
  have hD := hD0.self (sz := s.heap.size)
  generalize hAe : va_A (wdCa_choose q_this q_ahead q_below q_wish q_palette q_palette_levels c_ahead c_below c_wish c_palette_levels n_ahead n_below n_wish n_palette_levels f_ahead f_below f_wish f_palette_size f_palette_levels) s.heap.size = A at hD hZ ⊢
  have hA : ∀ q : Nat, s.heap.size ≤ q → A q := fun q h => by rw [← hAe]; exact Or.inr h
  have hS : va_S A s.heap s.heap [] := va_S.rf
  have hl := lv_entry ([.ref q_this, .int x1, .int x2, .ref q_palette]) (n := 7) (Nat.le_of_ble_eq_true rfl)
  rw [lg_entry_eq]
  generalize (lg_sl ([.ref q_this, .int x1, .int x2, .ref q_palette]) ++ List.replicate (7 - (lg_sl ([.ref q_this, .int x1, .int x2, .ref q_palette])).length) Slot.unset).toArray = ls at hl ⊢
  have hl : lv_has ls 7 [(0, .ref q_this), (1, .int x1), (2, .int x2), (3, .ref q_palette)] := hl
  have hL9 := (hB _ bw197)
  have hL15 := (hB _ bw199)
  have hL18 := (hB _ bw198)
  have hL41 := (hB _ bw164)
  refine gx_abs (fun G eG => ?_)
  obtain ⟨K3, eK3⟩ : ∃ K : Int32 → (Nat → Int32) → (Nat → Int32) → (Nat → Int32) → Prop, K = fun v4 f_ahead f_below f_wish => ∀ (H : Heap) (locs : List Loc) (ls : Array Slot), va_P (dC, dI) vwCl (wdCa_choose q_this q_ahead q_below q_wish q_palette q_palette_levels c_ahead c_below c_wish c_palette_levels n_ahead n_below n_wish n_palette_levels f_ahead f_below f_wish f_palette_size f_palette_levels) H → va_D A (wdCa_choose q_this q_ahead q_below q_wish q_palette q_palette_levels c_ahead c_below c_wish c_palette_levels n_ahead n_below n_wish n_palette_levels f_ahead f_below f_wish f_palette_size f_palette_levels) → va_S A s.heap H locs → lv_has ls 7 [(0, .ref q_this), (1, .int x1), (2, .int x2), (3, .ref q_palette), (4, .int v4)] → G H locs 0 0 (F0 m 3 ls []) := ⟨_, rfl⟩
  obtain ⟨K77, eK77⟩ : ∃ K : Int32 → Int32 → (Nat → Int32) → (Nat → Int32) → (Nat → Int32) → Prop, K = fun v4 v5 f_ahead f_below f_wish => ∀ (H : Heap) (locs : List Loc) (ls : Array Slot), va_P (dC, dI) vwCl (wdCa_choose q_this q_ahead q_below q_wish q_palette q_palette_levels c_ahead c_below c_wish c_palette_levels n_ahead n_below n_wish n_palette_levels f_ahead f_below f_wish f_palette_size f_palette_levels) H → va_D A (wdCa_choose q_this q_ahead q_below q_wish q_palette q_palette_levels c_ahead c_below c_wish c_palette_levels n_ahead n_below n_wish n_palette_levels f_ahead f_below f_wish f_palette_size f_palette_levels) → va_S A s.heap H locs → lv_has ls 7 [(0, .ref q_this), (2, .int x2), (3, .ref q_palette), (4, .int v4), (5, .int v5)] → G H locs 0 0 (F0 m 77 ls []) := ⟨_, rfl⟩
  unfold wpCa_choose at hw
  have hv := hw K3 K77
  have hv := hv (by
    intro v4 f_ahead f_below f_wish hv
    rw [eK3]
    intro H locs ls hP hD hS hl
    rw [eG]
    unfold vcCa_choose_3 at hv
    refine lv_iload hx hb dCa_choose_3 (lv_at hl 4 rfl) ?_
    refine lv_iconst (v := 4) hx hb dCa_choose_5 (by decide) ?_
    refine lv_icmp_ge (tgt := 48) hx hb dCa_choose_6 (by decide) (fun c_1 => ?_) (fun c_1 => ?_)
    · have hv := hv.1 c_1
      refine lv_aload_n hx hb dCa_choose_48 rfl (lv_at hl 3 rfl) ?_
      refine lv_aload_n hx hb dCa_choose_49 rfl (lv_at hl 0 rfl) ?_
      refine lv_iconst (v := 0) hx hb dCa_choose_50 (by decide) ?_
      refine gx_ri (va_runV (As := [.int 0]) (rest := [.ref q_palette]) ⟨hx, hb, hml, hown, hB⟩ (metCa_broughtIn l dC dI q_this q_wish q_ahead q_below c_wish n_wish H.size f_wish 0 hv) (cwV 1 hB (gx_gV bw587 bw588 bw22 bw52 bw589) rfl rfl rfl (by decide +kernel) ⟨(Nat.le_of_ble_eq_true rfl), (Nat.le_of_ble_eq_true rfl)⟩) (gx_rpreV (ci := 1) (hP.sub (ws' := (wdCa_broughtIn q_this q_wish q_ahead q_below c_wish n_wish f_wish)) [0, 3] rfl) (hK.sub (tys' := [(c_wish, .int)]) [2] rfl) hZ hS hA rfl rfl) rfl rfl hl.1 rfl (lv_room (Nat.le_of_ble_eq_true rfl)) dCa_choose_51 ⟨(Nat.le_of_ble_eq_true rfl), (Nat.le_of_ble_eq_true rfl)⟩) hP hS hA (fun r_2 H locs hv hP hS => ?_)
      refine lv_aload_n hx hb dCa_choose_54 rfl (lv_at hl 0 rfl) ?_
      refine lv_iconst (v := 1) hx hb dCa_choose_55 (by decide) ?_
      refine gx_ri (va_runV (As := [.int 1]) (rest := [.int r_2, .ref q_palette]) ⟨hx, hb, hml, hown, hB⟩ (metCa_broughtIn l dC dI q_this q_wish q_ahead q_below c_wish n_wish H.size f_wish 1 hv) (cwV 1 hB (gx_gV bw587 bw588 bw22 bw52 bw589) rfl rfl rfl (by decide +kernel) ⟨(Nat.le_of_ble_eq_true rfl), (Nat.le_of_ble_eq_true rfl)⟩) (gx_rpreV (ci := 1) (hP.sub (ws' := (wdCa_broughtIn q_this q_wish q_ahead q_below c_wish n_wish f_wish)) [0, 3] rfl) (hK.sub (tys' := [(c_wish, .int)]) [2] rfl) hZ hS hA rfl rfl) rfl rfl hl.1 rfl (lv_room (Nat.le_of_ble_eq_true rfl)) dCa_choose_56 ⟨(Nat.le_of_ble_eq_true rfl), (Nat.le_of_ble_eq_true rfl)⟩) hP hS hA (fun r_4 H locs hv hP hS => ?_)
      refine lv_aload_n hx hb dCa_choose_59 rfl (lv_at hl 0 rfl) ?_
      refine lv_iconst (v := 2) hx hb dCa_choose_60 (by decide) ?_
      refine gx_ri (va_runV (As := [.int 2]) (rest := [.int r_4, .int r_2, .ref q_palette]) ⟨hx, hb, hml, hown, hB⟩ (metCa_broughtIn l dC dI q_this q_wish q_ahead q_below c_wish n_wish H.size f_wish 2 hv) (cwV 1 hB (gx_gV bw587 bw588 bw22 bw52 bw589) rfl rfl rfl (by decide +kernel) ⟨(Nat.le_of_ble_eq_true rfl), (Nat.le_of_ble_eq_true rfl)⟩) (gx_rpreV (ci := 1) (hP.sub (ws' := (wdCa_broughtIn q_this q_wish q_ahead q_below c_wish n_wish f_wish)) [0, 3] rfl) (hK.sub (tys' := [(c_wish, .int)]) [2] rfl) hZ hS hA rfl rfl) rfl rfl hl.1 rfl (lv_room (Nat.le_of_ble_eq_true rfl)) dCa_choose_61 ⟨(Nat.le_of_ble_eq_true rfl), (Nat.le_of_ble_eq_true rfl)⟩) hP hS hA (fun r_6 H locs hv hP hS => ?_)
      refine lv_aload_n hx hb dCa_choose_64 rfl (lv_at hl 0 rfl) ?_
      refine lv_iconst (v := 3) hx hb dCa_choose_65 (by decide) ?_
      refine gx_ri (va_runV (As := [.int 3]) (rest := [.int r_6, .int r_4, .int r_2, .ref q_palette]) ⟨hx, hb, hml, hown, hB⟩ (metCa_broughtIn l dC dI q_this q_wish q_ahead q_below c_wish n_wish H.size f_wish 3 hv) (cwV 1 hB (gx_gV bw587 bw588 bw22 bw52 bw589) rfl rfl rfl (by decide +kernel) ⟨(Nat.le_of_ble_eq_true rfl), (Nat.le_of_ble_eq_true rfl)⟩) (gx_rpreV (ci := 1) (hP.sub (ws' := (wdCa_broughtIn q_this q_wish q_ahead q_below c_wish n_wish f_wish)) [0, 3] rfl) (hK.sub (tys' := [(c_wish, .int)]) [2] rfl) hZ hS hA rfl rfl) rfl rfl hl.1 rfl (lv_room (Nat.le_of_ble_eq_true rfl)) dCa_choose_66 ⟨(Nat.le_of_ble_eq_true rfl), (Nat.le_of_ble_eq_true rfl)⟩) hP hS hA (fun r_8 H locs hv hP hS => ?_)
      refine gx_ri (va_runV (As := [.int r_2, .int r_4, .int r_6, .int r_8]) (rest := []) ⟨hx, hb, hml, hown, hB⟩ (metPa_closest l dC dI q_palette q_palette_levels c_palette_levels n_palette_levels H.size f_palette_size f_palette_levels r_2 r_4 r_6 r_8 hv) (cwV 4 hB (gx_gV bw590 bw479 bw480 bw50 bw481) rfl rfl rfl (by decide +kernel) ⟨(Nat.le_of_ble_eq_true rfl), (Nat.le_of_ble_eq_true rfl)⟩) (gx_rpreV (ci := 4) (hP.sub (ws' := (wdPa_closest q_palette q_palette_levels c_palette_levels n_palette_levels f_palette_size f_palette_levels)) [4, 5] rfl) (hK.sub (tys' := [(c_palette_levels, .int)]) [3] rfl) hZ hS hA rfl rfl) rfl rfl hl.1 rfl (lv_room (Nat.le_of_ble_eq_true rfl)) dCa_choose_69 ⟨(Nat.le_of_ble_eq_true rfl), (Nat.le_of_ble_eq_true rfl)⟩) hP hS hA (fun r_10 H locs hv hP hS => ?_)
      refine lv_istore (lv' := [(4, .int r_10), (0, .ref q_this), (1, .int x1), (2, .int x2), (3, .ref q_palette)]) hx hb dCa_choose_72 hl (by decide) rfl (fun ls hl => ?_)
      refine lv_iconst (v := 0) hx hb dCa_choose_74 (by decide) ?_
      refine lv_istore (lv' := [(5, .int 0), (4, .int r_10), (0, .ref q_this), (1, .int x1), (2, .int x2), (3, .ref q_palette)]) hx hb dCa_choose_75 hl (by decide) rfl (fun ls hl => ?_)
      rw [eK77, eG] at hv
      exact hv _ _ _ hP hD hS (lv_sub hl [2, 4, 5, 1, 0] rfl)
    · have hv := hv.2 c_1
      refine lv_aload_n hx hb dCa_choose_9 rfl (lv_at hl 0 rfl) ?_
      refine va_get (D := (dC, dI)) (ci := 1) (v := .ref q_wish) (C := RCa) (T := TCa) (N := 3) hx hb hB hiCa hown hK hP 0 rfl rfl 2 (by decide) hL15 (fun _ h9 => h9) rfl dCa_choose_10 ?_
      refine lv_iload hx hb dCa_choose_13 (lv_at hl 4 rfl) ?_
      refine lv_iload_n hx hb dCa_choose_15 rfl (lv_at hl 1 rfl) ?_
      refine lv_iload hx hb dCa_choose_16 (lv_at hl 4 rfl) ?_
      refine gx_ri (va_runSN (As := [.int x1, .int v4]) (rest := [.int v4, .ref q_wish]) ⟨hx, hb, hml, hown, hB⟩ (metCL_levelOf l dC dI H.size x1 v4 hv) ⟨va_cnB 2 hB (gx_gN bw364) rfl rfl rfl (hZ.1 _ (List.mem_of_getElem? (i := 24) rfl)) (hB _ bw44) (by decide +kernel) ⟨(Nat.le_of_ble_eq_true rfl), (Nat.le_of_ble_eq_true rfl)⟩, (hB _ bw363), trivial⟩ (gx_rpreS (hP.sub (ws' := wdCL_levelOf) [] rfl) (hK.sub (tys' := []) [] rfl) hZ hS hA) rfl rfl hl.1 rfl (lv_room (Nat.le_of_ble_eq_true rfl)) dCa_choose_18 ⟨(Nat.le_of_ble_eq_true rfl), (Nat.le_of_ble_eq_true rfl)⟩) hP hS hA (fun r_12 H locs hv hP hS => ?_)
      refine lv_aload_n hx hb dCa_choose_21 rfl (lv_at hl 0 rfl) ?_
      refine va_get (D := (dC, dI)) (ci := 1) (v := .ref q_ahead) (C := RCa) (T := TCa) (N := 3) hx hb hB hiCa hown hK hP 0 rfl rfl 0 (by decide) hL9 (fun _ h9 => h9) rfl dCa_choose_22 ?_
      refine lv_iload hx hb dCa_choose_25 (lv_at hl 4 rfl) ?_
      obtain ⟨h_14, hv⟩ := hv
      refine va_iald hx hb hK hP 1 0 rfl rfl h_14 dCa_choose_27 ?_
      refine lv_iadd hx hb dCa_choose_28 ?_
      refine lv_aload_n hx hb dCa_choose_29 rfl (lv_at hl 0 rfl) ?_
      refine va_get (D := (dC, dI)) (ci := 1) (v := .ref q_below) (C := RCa) (T := TCa) (N := 3) hx hb hB hiCa hown hK hP 0 rfl rfl 1 (by decide) hL18 (fun _ h9 => h9) rfl dCa_choose_30 ?_
      refine lv_iload_n hx hb dCa_choose_33 rfl (lv_at hl 2 rfl) ?_
      refine lv_iconst (v := 4) hx hb dCa_choose_34 (by decide) ?_
      refine lv_imul hx hb dCa_choose_35 ?_
      refine lv_iload hx hb dCa_choose_36 (lv_at hl 4 rfl) ?_
      refine lv_iadd hx hb dCa_choose_38 ?_
      obtain ⟨h_15, hv⟩ := hv
      refine va_iald hx hb hK hP 2 1 rfl rfl h_15 dCa_choose_39 ?_
      refine lv_iadd hx hb dCa_choose_40 ?_
      obtain ⟨h_16, hv⟩ := hv
      refine va_iast hx hb hK hP hD hS 3 2 rfl rfl h_16 dCa_choose_41 (fun H locs hP hD hS => ?_)
      have hP : va_P (dC, dI) vwCl (wdCa_choose q_this q_ahead q_below q_wish q_palette q_palette_levels c_ahead c_below c_wish c_palette_levels n_ahead n_below n_wish n_palette_levels f_ahead f_below (upd f_wish v4.toNatClampNeg ((r_12 + (f_ahead v4.toNatClampNeg)) + (f_below ((x2 * 4) + v4).toNatClampNeg))) f_palette_size f_palette_levels) H := hP
      have hD : va_D A (wdCa_choose q_this q_ahead q_below q_wish q_palette q_palette_levels c_ahead c_below c_wish c_palette_levels n_ahead n_below n_wish n_palette_levels f_ahead f_below (upd f_wish v4.toNatClampNeg ((r_12 + (f_ahead v4.toNatClampNeg)) + (f_below ((x2 * 4) + v4).toNatClampNeg))) f_palette_size f_palette_levels) := hD
      refine lv_iinc (v := v4 + 1) (lv' := [(4, .int (v4 + 1)), (0, .ref q_this), (1, .int x1), (2, .int x2), (3, .ref q_palette)]) hx hb dCa_choose_42 hl (k := 4) rfl rfl (by decide) rfl (fun ls hl => ?_)
      refine lv_goto (tgt := 3) hx hb dCa_choose_45 (by decide) ?_
      rw [eK3, eG] at hv
      exact hv _ _ _ hP hD hS (lv_sub hl [1, 2, 3, 4, 0] rfl))
  have hv := hv (by
    intro v4 v5 f_ahead f_below f_wish hv
    rw [eK77]
    intro H locs ls hP hD hS hl
    rw [eG]
    unfold vcCa_choose_77 at hv
    refine lv_iload hx hb dCa_choose_77 (lv_at hl 4 rfl) ?_
    refine lv_iconst (v := 4) hx hb dCa_choose_79 (by decide) ?_
    refine lv_icmp_ge (tgt := 140) hx hb dCa_choose_80 (by decide) (fun c_18 => ?_) (fun c_18 => ?_)
    · have hv := hv.1 c_18
      refine lv_iload hx hb dCa_choose_140 (lv_at hl 3 rfl) ?_
      exact W.iret (v := v4) hx hb hr (fun t ht hW => ⟨⟨_, (f_ahead, f_below, f_wish), rfl, hv, by rw [ht]; exact hP, hD⟩, hS.F ht⟩) hS.2.2 dCa_choose_142
    · have hv := hv.2 c_18
      refine lv_aload_n hx hb dCa_choose_83 rfl (lv_at hl 0 rfl) ?_
      refine va_get (D := (dC, dI)) (ci := 1) (v := .ref q_wish) (C := RCa) (T := TCa) (N := 3) hx hb hB hiCa hown hK hP 0 rfl rfl 2 (by decide) hL15 (fun _ h9 => h9) rfl dCa_choose_84 ?_
      refine lv_iload hx hb dCa_choose_87 (lv_at hl 4 rfl) ?_
      obtain ⟨h_19, hv⟩ := hv
      refine va_iald hx hb hK hP 3 2 rfl rfl h_19 dCa_choose_89 ?_
      refine lv_aload_n hx hb dCa_choose_90 rfl (lv_at hl 2 rfl) ?_
      refine va_get (D := (dC, dI)) (ci := 4) (v := .ref q_palette_levels) (C := RPa) (T := TPa) (N := 2) hx hb hB hiPa hown hK hP 4 rfl rfl 0 (by decide) hL41 (fun _ h9 => h9) rfl dCa_choose_91 ?_
      refine lv_iload hx hb dCa_choose_94 (lv_at hl 3 rfl) ?_
      refine lv_iconst (v := 4) hx hb dCa_choose_96 (by decide) ?_
      refine lv_imul hx hb dCa_choose_97 ?_
      refine lv_iload hx hb dCa_choose_98 (lv_at hl 4 rfl) ?_
      refine lv_iadd hx hb dCa_choose_100 ?_
      obtain ⟨h_20, hv⟩ := hv
      refine va_iald hx hb hK hP 5 3 rfl rfl h_20 dCa_choose_101 ?_
      refine lv_isub hx hb dCa_choose_102 ?_
      refine lv_topi (fun v6_21 ev6_21 => ?_)
      have hv := hv v6_21 ev6_21
      refine lv_istore (lv' := [(6, .int v6_21), (0, .ref q_this), (2, .int x2), (3, .ref q_palette), (4, .int v4), (5, .int v5)]) hx hb dCa_choose_103 hl (by decide) rfl (fun ls hl => ?_)
      refine lv_aload_n hx hb dCa_choose_105 rfl (lv_at hl 1 rfl) ?_
      refine va_get (D := (dC, dI)) (ci := 1) (v := .ref q_ahead) (C := RCa) (T := TCa) (N := 3) hx hb hB hiCa hown hK hP 0 rfl rfl 0 (by decide) hL9 (fun _ h9 => h9) rfl dCa_choose_106 ?_
      refine lv_iload hx hb dCa_choose_109 (lv_at hl 5 rfl) ?_
      refine lv_iload hx hb dCa_choose_111 (lv_at hl 0 rfl) ?_
      refine lv_iconst (v := 2) hx hb dCa_choose_113 (by decide) ?_
      obtain ⟨h_22, hv⟩ := hv
      refine lv_idiv hx hb dCa_choose_114 h_22 ?_
      obtain ⟨h_23, hv⟩ := hv
      refine va_iast hx hb hK hP hD hS 1 0 rfl rfl h_23 dCa_choose_115 (fun H locs hP hD hS => ?_)
      have hP : va_P (dC, dI) vwCl (wdCa_choose q_this q_ahead q_below q_wish q_palette q_palette_levels c_ahead c_below c_wish c_palette_levels n_ahead n_below n_wish n_palette_levels (upd f_ahead v5.toNatClampNeg (v6_21 / 2)) f_below f_wish f_palette_size f_palette_levels) H := hP
      have hD : va_D A (wdCa_choose q_this q_ahead q_below q_wish q_palette q_palette_levels c_ahead c_below c_wish c_palette_levels n_ahead n_below n_wish n_palette_levels (upd f_ahead v5.toNatClampNeg (v6_21 / 2)) f_below f_wish f_palette_size f_palette_levels) := hD
      refine lv_aload_n hx hb dCa_choose_116 rfl (lv_at hl 1 rfl) ?_
      refine va_get (D := (dC, dI)) (ci := 1) (v := .ref q_below) (C := RCa) (T := TCa) (N := 3) hx hb hB hiCa hown hK hP 0 rfl rfl 1 (by decide) hL18 (fun _ h9 => h9) rfl dCa_choose_117 ?_
      refine lv_iload_n hx hb dCa_choose_120 rfl (lv_at hl 2 rfl) ?_
      refine lv_iconst (v := 4) hx hb dCa_choose_121 (by decide) ?_
      refine lv_imul hx hb dCa_choose_122 ?_
      refine lv_iload hx hb dCa_choose_123 (lv_at hl 5 rfl) ?_
      refine lv_iadd hx hb dCa_choose_125 ?_
      refine lv_iload hx hb dCa_choose_126 (lv_at hl 0 rfl) ?_
      refine lv_iload hx hb dCa_choose_128 (lv_at hl 0 rfl) ?_
      refine lv_iconst (v := 2) hx hb dCa_choose_130 (by decide) ?_
      obtain ⟨h_25, hv⟩ := hv
      refine lv_idiv hx hb dCa_choose_131 h_25 ?_
      refine lv_isub hx hb dCa_choose_132 ?_
      obtain ⟨h_26, hv⟩ := hv
      refine va_iast hx hb hK hP hD hS 2 1 rfl rfl h_26 dCa_choose_133 (fun H locs hP hD hS => ?_)
      have hP : va_P (dC, dI) vwCl (wdCa_choose q_this q_ahead q_below q_wish q_palette q_palette_levels c_ahead c_below c_wish c_palette_levels n_ahead n_below n_wish n_palette_levels (upd f_ahead v5.toNatClampNeg (v6_21 / 2)) (upd f_below ((x2 * 4) + v5).toNatClampNeg (v6_21 - (v6_21 / 2))) f_wish f_palette_size f_palette_levels) H := hP
      have hD : va_D A (wdCa_choose q_this q_ahead q_below q_wish q_palette q_palette_levels c_ahead c_below c_wish c_palette_levels n_ahead n_below n_wish n_palette_levels (upd f_ahead v5.toNatClampNeg (v6_21 / 2)) (upd f_below ((x2 * 4) + v5).toNatClampNeg (v6_21 - (v6_21 / 2))) f_wish f_palette_size f_palette_levels) := hD
      refine lv_iinc (v := v5 + 1) (lv' := [(5, .int (v5 + 1)), (6, .int v6_21), (0, .ref q_this), (2, .int x2), (3, .ref q_palette), (4, .int v4)]) hx hb dCa_choose_134 hl (k := 5) rfl rfl (by decide) rfl (fun ls hl => ?_)
      refine lv_goto (tgt := 77) hx hb dCa_choose_137 (by decide) ?_
      rw [eK77, eG] at hv
      exact hv _ _ _ hP hD hS (lv_sub hl [2, 3, 4, 5, 0] rfl))
  rw [eG]
  refine lv_iconst (v := 0) hx hb dCa_choose_0 (by decide) ?_
  refine lv_istore (lv' := [(4, .int 0), (0, .ref q_this), (1, .int x1), (2, .int x2), (3, .ref q_palette)]) hx hb dCa_choose_1 hl (by decide) rfl (fun ls hl => ?_)
  rw [eK3, eG] at hv
  exact hv _ _ _ hP hD hS (lv_sub hl [1, 2, 3, 4, 0] rfl)
