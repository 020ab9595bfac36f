/-! the class cuts boxes -/
def cbOK (D : Nat) (C M G : Nat → Nat) (n : Nat) (row st en we sp wi : Nat → Int32) : Prop := ∃ R Q s e : Nat → Nat, rQ D row R Q ∧ ∀ b, b < n → s b < e b ∧ e b ≤ D ∧ st b = nI (s b) ∧ en b = nI (e b) ∧ (∀ k, k < D → (G k = b ↔ s b ≤ Q k ∧ Q k < e b)) ∧ we b = nI (sm D (pb G b) M) ∧ sp b = nI (bsp D C (pb G b)) ∧ wi b = nI (wch D C (pb G b))
theorem pb_sg {D b s e : Nat} {G Q : Nat → Nat} (h : ∀ k, k < D → (G k = b ↔ s ≤ Q k ∧ Q k < e)) : ∀ k, k < D → pb G b k = sgp Q s e k := fun k hk => decide_eq_decide.mpr (h k hk)
/-- which shades leave the box -/
theorem mvs_gen {D bb ch s e mid : Nat} {C M G R Q : Nat → Nat} (hr1 : ∀ i, s ≤ i → i < e → R i < D ∧ Q (R i) = i) (hr2 : ∀ k, k < D → G k = bb → R (Q k) = k) (hG : ∀ k, k < D → (G k = bb ↔ s ≤ Q k ∧ Q k < e)) (hse : s + 1 < e)
    (hk : ∀ i j, s ≤ i → i < j → j < e → kyc C ch (R i) < kyc C ch (R j)) (hm1 : s < mid) (hm2 : mid < e) (hm : ∀ i, s < i → i < e → (mid ≤ i ↔ i = e - 1 ∨ sm D (sgp Q s e) M ≤ 2 * sm D (sgp Q s i) M)) :
    ∀ k, k < D → (mvs D C M G bb ch k ↔ mid ≤ Q k ∧ Q k < e) := by
  have ord : ∀ j k, j < D → k < D → G j = bb → G k = bb → (kyc C ch j < kyc C ch k ↔ Q j < Q k) := by
    intro j k hj hk' gj gk
    obtain ⟨a1, a2⟩ := (hG j hj).mp gj
    obtain ⟨b1, b2⟩ := (hG k hk').mp gk
    have ej := hr2 j hj gj
    have ek := hr2 k hk' gk
    constructor
    · intro q
      rcases Nat.lt_trichotomy (Q j) (Q k) with z | z | z
      · exact z
      · rw [← ej, ← ek, z] at q; omega
      · have := hk (Q k) (Q j) b1 z a2
        rw [ej, ek] at this
        omega
    · intro q
      have := hk (Q j) (Q k) a1 q b2
      rw [ej, ek] at this
      exact this
  have hsum : sm D (pb G bb) M = sm D (sgp Q s e) M := sm_congr (pb_sg hG) (fun _ _ _ => rfl)
  intro k hkD
  by_cases c : G k = bb
  · obtain ⟨a1, a2⟩ := (hG k hkD).mp c
    have hl : lsum D C M G bb ch k = sm D (sgp Q s (Q k)) M := by
      unfold lsum
      refine sm_congr (fun j hj => ?_) (fun _ _ _ => rfl)
      unfold sgp
      apply decide_eq_decide.mpr
      constructor
      · rintro ⟨q1, q2⟩
        exact ⟨((hG j hj).mp q1).1, (ord j k hj hkD q1 c).mp q2⟩
      · rintro ⟨q1, q2⟩
        have g := (hG j hj).mpr ⟨q1, by omega⟩
        exact ⟨g, (ord j k hj hkD g c).mpr q2⟩
    have hsm : (∃ j, j < D ∧ G j = bb ∧ kyc C ch j < kyc C ch k) ↔ s < Q k := by
      constructor
      · rintro ⟨j, j1, j2, j3⟩
        have := (ord j k j1 hkD j2 c).mp j3
        have := ((hG j j1).mp j2).1
        omega
      · intro q
        obtain ⟨b1, b2⟩ := hr1 s (by omega) (by omega)
        have g := (hG (R s) b1).mpr (by omega)
        exact ⟨R s, b1, g, (ord _ k b1 hkD g c).mpr (by omega)⟩
    have hla : (∀ j, j < D → G j = bb → kyc C ch j ≤ kyc C ch k) ↔ Q k = e - 1 := by
      constructor
      · intro q
        obtain ⟨b1, b2⟩ := hr1 (e - 1) (by omega) (by omega)
        have g := (hG (R (e - 1)) b1).mpr (by omega)
        have z := q _ b1 g
        rcases Nat.lt_or_ge (Q k) (e - 1) with y | y
        · have := (ord k _ hkD b1 c g).mpr (by omega)
          omega
        · omega
      · intro q j j1 j2
        rcases Nat.lt_or_ge (kyc C ch k) (kyc C ch j) with y | y
        · have := (ord k j hkD j1 c j2).mp y
          have := ((hG j j1).mp j2).2
          omega
        · exact y
    unfold mvs
    rw [hsm, hla, hl, hsum]
    constructor
    · rintro ⟨-, q1, q2⟩
      exact ⟨(hm (Q k) q1 a2).mpr q2, a2⟩
    · rintro ⟨q1, q2⟩
      exact ⟨c, by omega, (hm (Q k) (by omega) a2).mp q1⟩
  · constructor
    · intro q
      exact absurd q.1 c
    · rintro ⟨q1, q2⟩
      exact absurd ((hG k hkD).mpr ⟨by omega, q2⟩) c
theorem mvs_iff {D bb ch s e mid : Nat} {row : Nat → Int32} {C M G R Q : Nat → Nat} (hr : rQ D row R Q) (hG : ∀ k, k < D → (G k = bb ↔ s ≤ Q k ∧ Q k < e)) (hse : s + 1 < e) (he : e ≤ D)
    (hk : ∀ i j, s ≤ i → i < j → j < e → kyc C ch (R i) < kyc C ch (R j)) (hm1 : s < mid) (hm2 : mid < e) (hm : ∀ i, s < i → i < e → (mid ≤ i ↔ i = e - 1 ∨ sm D (sgp Q s e) M ≤ 2 * sm D (sgp Q s i) M)) :
    ∀ k, k < D → (mvs D C M G bb ch k ↔ mid ≤ Q k ∧ Q k < e) :=
  mvs_gen (fun i _ i2 => ⟨(hr.1 i (by omega)).1, (hr.1 i (by omega)).2.1⟩) (fun k hk _ => (hr.2 k hk).2) hG hse hk hm1 hm2 hm
theorem sp_Bx_cut {N D wanted : Nat} {sz ss : Int32} {row st en we sp wi ti ma : Nat → Int32} {ke : Nat → Int64} {C M : Nat → Nat} {post : Int32 → (Nat → Int32) → (Nat → Int32) → (Nat → Int32) → (Nat → Int32) → (Nat → Int32) → (Nat → Int32) → (Nat → Int64) → Prop}
    (hN : N ≤ 576) (hDN : D ≤ N) (hw0 : 0 < wanted) (hw : wanted ≤ 64) (hwD : wanted < D) (hC : ∀ i j, i < j → j < D → C i < C j) (ht : ∀ k, k < D → C k < 4294967296 ∧ ti k = nI (C k)) (hma : ∀ k, k < D → ma k = nI (M k)) (hM : tot D M ≤ 576)
    (h : ∀ row' st' en' we' sp' wi' ke', cbOK D C M (boxG D C M (wanted - 1)) wanted row' st' en' we' sp' wi' → post (nI wanted) row' st' en' we' sp' wi' ke') :
    wpBx_cut N 64 64 64 64 64 N N N sz row st en we sp wi (nI D) ss ti ma ke (nI wanted) post := by
  unfold wpBx_cut
  intro K2 K41 h2 h41
  have loop : ∀ (d n : Nat) (row st en we sp wi : Nat → Int32) (ke : Nat → Int64), n + 1 + d = wanted → cbOK D C M (boxG D C M n) (n + 1) row st en we sp wi → K41 (nI (n + 1)) (nI (n + 1)) row st en we sp wi ke := by
    intro d
    induction d with
    | zero =>
      intro n row st en we sp wi ke hn hcb
      have e1 : wanted = n + 1 := by omega
      subst e1
      apply h41
      unfold vcBx_cut_41 vcBx_cut_142
      exact ⟨fun _ => h _ _ _ _ _ _ _ hcb, fun q => absurd (nI_le (Nat.le_refl _) (by omega)) q⟩
    | succ d ih =>
      intro n row st en we sp wi ke hn hcb
      obtain ⟨R, Q, s, e, hr, hb⟩ := hcb
      have hGl : ∀ k, k < D → boxG D C M n k < n + 1 := boxG_lt n
      generalize hG : boxG D C M n = G at hb hGl
      apply h41
      unfold vcBx_cut_41 vcBx_cut_142
      refine ⟨fun q => absurd q (nI_ge (by omega) (by omega)), fun _ => ⟨fun q => ?_, fun _ => ?_⟩⟩
      · simp (disch := omega) only [li_0, li_1, li_2, li_3, li_4, li_8, li_16, li_20, li_24, li_40, li_63, li_64, li_255, li_256, li_576, nI_add, pk_mul, nz_neg, nz_sub, nz_cl, nz_le, nz_lt, nz_eq, nz_in, nz_div, true_and, forall_eq] at q
        omega
      refine sp_Bx_nextToCut (W := fun b => sm D (pb G b) M) (P := fun b => bsp D C (pb G b)) (by omega) (by omega) (by omega) (fun b hbn => ?_) ?_
      · obtain ⟨a1, a2, a3, a4, a5, a6, a7, a8⟩ := hb b hbn
        exact ⟨a6, a7, Nat.le_trans (sm_all _ _ _) hM, spr_le⟩
      obtain ⟨i0, j0, g1, g2, g3, g4⟩ := two_of hC (fun k hk => (ht k hk).1) hM (by omega) (show n + 1 < D by omega) hGl
      have hbb : fmin (n + 1) (fun b => 300000 - (bsp D C (pb G b) * 1024 + sm D (pb G b) M)) = bbox D C M G (n + 1) := rfl
      rw [hbb]
      have hbl : bbox D C M G (n + 1) < n + 1 := fmin_lt (by omega) _
      have hcut : ∀ k, boxG D C M (n + 1) k = if dc (mvs D C M G (bbox D C M G (n + 1)) (wch D C (pb G (bbox D C M G (n + 1)))) k) = true then n + 1 else G k := by
        intro k
        rw [← hG]
        rfl
      generalize bbox D C M G (n + 1) = bb at hbl hcut g3 g4
      obtain ⟨b1, b2, b3, b4, b5, b6, b7, b8⟩ := hb bb hbl
      have hse : s bb + 1 < e bb := by
        have z1 := (b5 i0 (by omega)).mp g3
        have z2 := (b5 j0 g2).mp g4
        have z3 : Q i0 ≠ Q j0 := by
          intro q
          have := (hr.2 i0 (by omega)).2
          rw [q, (hr.2 j0 g2).2] at this
          omega
        omega
      have hsum0 : sm D (pb G bb) M = sm D (sgp Q (s bb) (e bb)) M := sm_congr (pb_sg b5) (fun _ _ _ => rfl)
      simp (disch := omega) only [li_0, li_1, li_2, li_3, li_4, li_8, li_16, li_20, li_24, li_40, li_63, li_64, li_255, li_256, li_576, nI_add, pk_mul, nz_neg, nz_sub, nz_cl, nz_le, nz_lt, nz_eq, nz_in, nz_div, true_and, forall_eq, b3, b4]
      refine ⟨fun _ => ?_, fun q => by omega⟩
      generalize hch : wch D C (pb G bb) = ch at b8 hcut
      refine sp_Bx_sort (D := D) (R := R) (Q := Q) (C := C) (ch := ch) (by omega) (by omega) (by omega) (by omega) (by omega) (by omega) b1 b2 (by omega) (by rw [← hch]; exact wch_lt) hr ht b3 b4 b8 (fun row' ke' R' Q' hr' q1 q2 q3 => ?_)
      have hG' : ∀ k, k < D → (G k = bb ↔ s bb ≤ Q' k ∧ Q' k < e bb) := fun k hk => (b5 k hk).trans (q1 k hk).symm
      have hsum : sm D (pb G bb) M = sm D (sgp Q' (s bb) (e bb)) M := sm_congr (pb_sg hG') (fun _ _ _ => rfl)
      refine sp_Bx_cutPlace (D := D) (R := R') (Q := Q') (M := M) (by omega) (by omega) (by omega) (by omega) (by omega) hM hse b2 (by omega) hr' hma b3 b4 (by rw [b6, hsum]) (fun mid m1 m2 m3 => ?_)
      have hmv := mvs_iff (C := C) (ch := ch) hr' hG' hse b2 q3 m1 m2 m3
      refine sp_Bx_measure (D := D) (R := R') (Q := Q') (C := C) (M := M) (by omega) (by omega) (by omega) (by omega) (by omega) m1 (by omega) (by omega) hr' ht hma ?_
      refine sp_Bx_measure (D := D) (R := R') (Q := Q') (C := C) (M := M) (by omega) (by omega) (by omega) (by omega) (by omega) m2 b2 (by omega) hr' ht hma ?_
      refine ih (n + 1) _ _ _ _ _ _ _ (by omega) ⟨R', Q', fun b => if b = n + 1 then mid else s b, fun b => if b = n + 1 then e bb else if b = bb then mid else e b, hr', fun b hbn => ?_⟩
      by_cases c1 : b = n + 1
      · subst c1
        have hx : ∀ k, k < D → (boxG D C M (n + 1) k = n + 1 ↔ mid ≤ Q' k ∧ Q' k < e bb) := by
          intro k hk
          rw [← hmv k hk, hcut]
          constructor
          · intro z
            split at z
            · next y => exact dc_iff.mp y
            · have := hGl k hk; omega
          · intro z
            rw [if_pos (dc_t z)]
        simp only [if_true, pk_us]
        rw [sm_congr (pb_sg hx) (fun _ _ _ => rfl), bsp_cg (pb_sg hx), wch_cg (pb_sg hx)]
        exact ⟨m2, b2, by trivial, by trivial, hx, by trivial, by trivial, by trivial⟩
      · by_cases c2 : b = bb
        · subst c2
          have hx : ∀ k, k < D → (boxG D C M (n + 1) k = b ↔ s b ≤ Q' k ∧ Q' k < mid) := by
            intro k hk
            rw [hcut]
            have y1 := hmv k hk
            have y2 := hG' k hk
            split
            · next y =>
              have := y1.mp (dc_iff.mp y)
              constructor
              · intro z; omega
              · intro z; omega
            · next y =>
              rw [dc_iff, y1] at y
              rw [y2]
              constructor
              · intro z; omega
              · intro z; omega
          simp only [if_neg c1, if_true, pk_un c1, pk_us]
          rw [sm_congr (pb_sg hx) (fun _ _ _ => rfl), bsp_cg (pb_sg hx), wch_cg (pb_sg hx)]
          exact ⟨m1, by omega, by trivial, by trivial, hx, by trivial, by trivial, by trivial⟩
        · obtain ⟨d1, d2, d3, d4, d5, d6, d7, d8⟩ := hb b (by omega)
          have hy : ∀ k, k < D → (boxG D C M (n + 1) k = b ↔ G k = b) := by
            intro k hk
            rw [hcut]
            split
            · next y =>
              have := (dc_iff.mp y).1
              constructor
              · intro z; omega
              · intro z; omega
            · exact Iff.rfl
          have hx : ∀ k, k < D → (boxG D C M (n + 1) k = b ↔ s b ≤ Q' k ∧ Q' k < e b) := by
            intro k hk
            rw [hy k hk, d5 k hk]
            by_cases z : s bb ≤ Q k ∧ Q k < e bb
            · have z1 := (q1 k hk).mpr z
              obtain ⟨y1, y2, -⟩ := hr.1 (Q' k) (by omega)
              constructor
              · intro z2
                have := (d5 k hk).mpr z2
                have := (b5 k hk).mpr z
                omega
              · intro z2
                have u1 := (d5 (R (Q' k)) y1).mpr (by omega)
                have u2 := (b5 (R (Q' k)) y1).mpr (by omega)
                omega
            · rw [q2 k hk z]
          have hz : ∀ k, k < D → pb (boxG D C M (n + 1)) b k = pb G b k := fun k hk => decide_eq_decide.mpr (hy k hk)
          simp only [if_neg c1, if_neg c2, pk_un c1, pk_un c2]
          rw [sm_congr hz (fun _ _ _ => rfl), bsp_cg hz, wch_cg hz]
          exact ⟨d1, d2, d3, d4, hx, d6, d7, d8⟩
  have fill : ∀ (d k : Nat) (row : Nat → Int32), k + d = D → (∀ j, j < k → row j = nI j) → K2 (nI k) sz row st en we sp wi ke := by
    intro d
    induction d with
    | zero =>
      intro k row hk hrow
      have : k = D := by omega
      subst this
      apply h2
      unfold vcBx_cut_2
      refine ⟨fun _ => ?_, fun q => absurd (nI_le (Nat.le_refl _) (by omega)) q⟩
      rw [li_0, li_1]
      have hr : rQ k row (fun i => i) (fun i => i) := ⟨fun i hi => ⟨hi, rfl, hrow i hi⟩, fun i hi => ⟨hi, rfl⟩⟩
      refine sp_Bx_measure (D := k) (C := C) (M := M) (by omega) (by omega) (by omega) hDN hDN (by omega) (Nat.le_refl _) (by omega) hr ht hma ?_
      refine loop (wanted - 1) 0 _ _ _ _ _ _ _ (by omega) ⟨_, _, fun _ => 0, fun _ => k, hr, fun b hb => ?_⟩
      have : b = 0 := by omega
      subst this
      have hx : ∀ j, j < k → (boxG k C M 0 j = 0 ↔ 0 ≤ j ∧ j < k) := fun j hj => ⟨fun _ => ⟨Nat.zero_le _, hj⟩, fun _ => rfl⟩
      simp only [pk_us]
      rw [sm_congr (pb_sg (Q := fun i => i) hx) (fun _ _ _ => rfl), bsp_cg (pb_sg (Q := fun i => i) hx), wch_cg (pb_sg (Q := fun i => i) hx)]
      exact ⟨by omega, Nat.le_refl _, by trivial, by trivial, hx, by trivial, by trivial, by trivial⟩
    | succ d ih =>
      intro k row hk hrow
      apply h2
      unfold vcBx_cut_2
      refine ⟨fun q => absurd q (nI_ge (by omega) (by omega)), fun _ => ?_⟩
      simp (disch := omega) only [li_0, li_1, li_2, li_3, li_4, li_8, li_16, li_20, li_24, li_40, li_63, li_64, li_255, li_256, li_576, nI_add, pk_mul, nz_neg, nz_sub, nz_cl, nz_le, nz_lt, nz_eq, nz_in, nz_div, true_and, forall_eq]
      refine ih (k + 1) _ (by omega) (fun j hj => ?_)
      simp only [upd]
      by_cases c : j = k
      · rw [if_pos c, c]
      · rw [if_neg c]; exact hrow j (by omega)
  exact fill D 0 row (by omega) (fun j hj => absurd hj (Nat.not_lt_zero _))
