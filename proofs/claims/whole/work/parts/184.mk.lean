/-! the model makes boxes -/
def mbOK (D : Nat) (C M G : Nat → Nat) (n : Nat) (gr ch sp bm : Nat → Int32) : Prop := (∀ k, k < D → gr k = nI (G k)) ∧ ∀ b, b < n → ch b = nI (wch D C (pb G b)) ∧ sp b = nI (bsp D C (pb G b)) ∧ bm b = nI (sm D (pb G b) M)
theorem sp_Md_makeBoxes {nc nm ng nr nh D wanted : Nat} {a1 a2 a3 a4 a5 a6 a7 a8 : Int32} {cs ms gr row ch sp bm : Nat → Int32} {C M : Nat → Nat} {post : Int32 → Int32 → (Nat → Int32) → (Nat → Int32) → (Nat → Int32) → (Nat → Int32) → (Nat → Int32) → Prop}
    (hnc : nc < 2147483648) (hnm : nm < 2147483648) (hng : ng < 2147483648) (hnr : nr < 2147483648) (hnh : nh < 2147483648) (hD : D ≤ 576) (hD1 : 4 * D ≤ nc) (hD2 : D ≤ nm) (hD3 : D ≤ ng) (hD4 : D ≤ nr) (h64 : 64 ≤ nh)
    (hw0 : 0 < wanted) (hw : wanted ≤ 64) (hwD : wanted < D) (hC0 : ∀ i j, i < j → j < D → C i < C j) (hC : chs cs D C) (hM : ∀ k, k < D → ms k = nI (M k)) (hMt : tot D M ≤ 576)
    (h : ∀ rs gr' row' ch' sp' bm', (∀ k, k < D → gr' k = nI (boxG D C M (wanted - 1) k)) → post (nI wanted) rs gr' row' ch' sp' bm') :
    wpMd_makeBoxes nc nm ng nr nh nh nh a1 a2 a3 (nI D) a4 a5 a6 a7 a8 cs ms gr row ch sp bm (nI wanted) post := by
  unfold wpMd_makeBoxes
  intro K7 K33 K45 h7 h33 h45
  have hB : ∀ k, k < D → C k < 4294967296 := fun k hk => (hC k hk).1
  have loop : ∀ (d n : Nat) (rs : Int32) (gr row ch sp bm : Nat → Int32), n + 1 + d = wanted → mbOK D C M (boxG D C M n) (n + 1) gr ch sp bm → K33 (nI (n + 1)) rs gr row ch sp bm := by
    intro d
    induction d with
    | zero =>
      intro n rs gr row ch sp bm hn hmb
      have e1 : wanted = n + 1 := by omega
      subst e1
      apply h33
      unfold vcMd_makeBoxes_33
      exact ⟨fun _ => h _ _ _ _ _ _ hmb.1, fun q => absurd (nI_le (Nat.le_refl _) (by omega)) q⟩
    | succ d ih =>
      intro n rs gr row ch sp bm hn hmb
      have hGl : ∀ k, k < D → boxG D C M n k < n + 1 := boxG_lt n
      generalize hG : boxG D C M n = G at hmb hGl
      have hcutG : ∀ k, boxG D C M (n + 1) k = if dc (mvs D C M G (bbox D C M G (n + 1)) (wch D C (pb G (bbox D C M G (n + 1)))) k) = true then n + 1 else G k := by
        intro k
        rw [← hG]
        rfl
      apply h33
      unfold vcMd_makeBoxes_33
      refine ⟨fun q => absurd q (nI_ge (by omega) (by omega)), fun _ => ?_⟩
      have scan : ∀ (e v best : Nat), v + e = n + 1 → fstMin v (bky D C M G) best → K45 (nI best) (nI v) (nI (n + 1)) rs gr row ch sp bm := by
        intro e
        induction e with
        | zero =>
          intro v best hv hf
          have : v = n + 1 := by omega
          subst this
          have hbb : bbox D C M G (n + 1) = best := fmin_eq hf
          obtain ⟨i0, j0, g1, g2, g3, g4⟩ := two_of hC0 hB hMt (by omega) (show n + 1 < D by omega) hGl
          rw [hbb] at hcutG g3 g4
          have hbl := hf.1
          obtain ⟨m1, m2, m3⟩ := hmb.2 best hbl
          apply h45
          unfold vcMd_makeBoxes_45
          refine ⟨fun _ => ?_, fun q => absurd (nI_le (Nat.le_refl _) (by omega)) q⟩
          refine sp_Md_cut (C := C) (M := M) (G := G) hnc hnm hng hnr hnh hD hD1 hD2 hD3 hD4 (by omega) hbl (by omega) wch_lt hC hM hMt (fun k hk => ⟨hGl k hk, hmb.1 k hk⟩) m1 g1 g2 g3 g4 (fun rs' gr' row' hgr' => ?_)
          have hgr2 : ∀ k, k < D → gr' k = nI (boxG D C M (n + 1) k) := fun k hk => by rw [hgr' k hk, hcutG k]
          have hl2 : ∀ k, k < D → boxG D C M (n + 1) k < 576 ∧ gr' k = nI (boxG D C M (n + 1) k) := fun k hk => ⟨by have := boxG_lt (C := C) (M := M) (n + 1) k hk; omega, hgr2 k hk⟩
          have hne := boxG_ne hD hC0 hB hMt (n + 1) (by omega)
          obtain ⟨k1, k2, k3⟩ := hne best (by omega)
          obtain ⟨k4, k5, k6⟩ := hne (n + 1) (by omega)
          refine sp_Md_look (C := C) (M := M) (G := boxG D C M (n + 1)) hnc hnm hng hnh hD1 hD3 hD2 (by omega) (by omega) hC hM hl2 k2 k3 ?_
          simp (disch := omega) only [li_0, li_1, li_2, li_3, li_4, li_8, li_16, li_20, li_24, li_40, li_63, li_64, li_255, li_256, li_576, nI_add, pk_mul, nz_neg, nz_sub, nz_cl, nz_le, nz_lt, nz_eq, nz_in, nz_div, true_and, forall_eq, Nat.add_sub_cancel]
          refine sp_Md_look (C := C) (M := M) (G := boxG D C M (n + 1)) hnc hnm hng hnh hD1 hD3 hD2 (by omega) (by omega) hC hM hl2 k5 k6 ?_
          refine ih (n + 1) _ _ _ _ _ _ (by omega) ⟨hgr2, fun b hb => ?_⟩
          by_cases c1 : b = n + 1
          · subst c1
            simp only [pk_us]
            exact ⟨by trivial, by trivial, by trivial⟩
          · by_cases c2 : b = best
            · subst c2
              simp only [pk_un c1, pk_us]
              exact ⟨by trivial, by trivial, by trivial⟩
            · simp only [pk_un c1, pk_un c2]
              have hz : ∀ k, k < D → pb (boxG D C M (n + 1)) b k = pb G b k := by
                intro k hk
                unfold pb
                apply decide_eq_decide.mpr
                rw [hcutG]
                split
                · next y =>
                  have := (dc_iff.mp y).1
                  constructor
                  · intro z; omega
                  · intro z; omega
                · exact Iff.rfl
              rw [sm_congr hz (fun _ _ _ => rfl), bsp_cg hz, wch_cg hz]
              exact hmb.2 b (by omega)
        | succ e ihe =>
          intro v best hv hf
          have hbl := hf.1
          obtain ⟨m1, m2, m3⟩ := hmb.2 best (by omega)
          obtain ⟨p1, p2, p3⟩ := hmb.2 v (by omega)
          have l1 : bsp D C (pb G best) ≤ 255 := spr_le
          have l2 : bsp D C (pb G v) ≤ 255 := spr_le
          have l3 : sm D (pb G best) M ≤ 576 := Nat.le_trans (sm_all _ _ _) hMt
          have l4 : sm D (pb G v) M ≤ 576 := Nat.le_trans (sm_all _ _ _) hMt
          have y := fun (q : bky D C M G v < bky D C M G best) => ihe (v + 1) v (by omega) (fstMin_s1 hf q)
          have n := fun (q : ¬ bky D C M G v < bky D C M G best) => ihe (v + 1) best (by omega) (fstMin_s2 hf q)
          unfold bky at y n
          apply h45
          simp only [vcMd_makeBoxes_45, vcMd_makeBoxes_98, vcMd_makeBoxes_102, vcMd_makeBoxes_103]
          simp (disch := omega) only [li_0, li_1, li_2, li_3, li_4, li_8, li_16, li_20, li_24, li_40, li_63, li_64, li_255, li_256, li_576, nI_add, pk_mul, nz_neg, nz_sub, nz_cl, nz_le, nz_lt, nz_eq, nz_in, nz_div, true_and, forall_eq, m2, m3, p2, p3]
          exact ⟨fun q => by omega, fun _ => ⟨fun q => y (by omega), fun q => ⟨fun q2 => n (by omega), fun q2 => ⟨fun q3 => n (by omega), fun q3 => y (by omega)⟩⟩⟩⟩
      exact scan n 1 0 (by omega) (fstMin_1 _)
  have fill : ∀ (d k : Nat) (gr : Nat → Int32), k + d = D → (∀ j, j < k → gr j = nI 0) → K7 (nI k) (nI 1) a5 gr row ch sp bm := by
    intro d
    induction d with
    | zero =>
      intro k gr hk hgr
      have : k = D := by omega
      subst this
      apply h7
      unfold vcMd_makeBoxes_7
      refine ⟨fun _ => ?_, fun q => absurd (nI_le (Nat.le_refl _) (by omega)) q⟩
      rw [li_0]
      refine sp_Md_look (D := k) (C := C) (M := M) (G := boxG k C M 0) (k0 := 0) hnc hnm hng hnh hD1 hD3 hD2 (by omega) (by omega) hC hM (fun j hj => ⟨by show 0 < 576; omega, hgr j hj⟩) (by omega) rfl ?_
      refine loop (wanted - 1) 0 _ _ _ _ _ _ (by omega) ⟨hgr, fun b hb => ?_⟩
      have : b = 0 := by omega
      subst this
      simp only [pk_us]
      exact ⟨by trivial, by trivial, by trivial⟩
    | succ d ih =>
      intro k gr hk hgr
      apply h7
      unfold vcMd_makeBoxes_7
      refine ⟨fun q => absurd q (nI_ge (by omega) (by omega)), fun _ => ?_⟩
      simp (disch := omega) only [li_0, li_1, li_2, li_3, li_4, li_8, li_16, li_20, li_24, li_40, li_63, li_64, li_255, li_256, li_576, nI_add, pk_mul, nz_neg, nz_sub, nz_cl, nz_le, nz_lt, nz_eq, nz_in, nz_div, true_and, forall_eq]
      refine ih (k + 1) _ (by omega) (fun j hj => ?_)
      simp only [upd]
      by_cases c : j = k
      · rw [if_pos c]
      · rw [if_neg c]; exact hgr j (by omega)
  exact fill D 0 gr (by omega) (fun j hj => absurd hj (Nat.not_lt_zero _))
