/-! the law, from its entry on -/
theorem wth (a : Int32) : ∃ W, 0 < W ∧ W ≤ 24 ∧ (if (1 : Int32) < (if a < 24 then a else 24) then (if a < 24 then a else 24) else 1) = nI W ∧ (1 ≤ a → a ≤ 24 → a = nI W) ∧ (1 ≤ a → ¬ a ≤ 24 → 24 = nI W) ∧ (¬ 1 ≤ a → 1 = nI W) := by
  by_cases h1 : 1 ≤ a
  · have h0 : ¬ a < 0 := by
      intro q
      rw [Int32.lt_iff_toInt_lt, Int32.toInt_zero] at q
      rw [Int32.le_iff_toInt_le, show (1 : Int32).toInt = 1 from by decide] at h1
      omega
    obtain ⟨n, n1, rfl⟩ := n_of h0
    rw [li_1, nI_leI (by omega) (by omega)] at h1
    by_cases h2 : n < 24
    · have g1 : nI n < 24 := by rw [li_24]; exact (nI_ltI (by omega) (by omega)).mpr h2
      refine ⟨n, by omega, by omega, ?_, fun _ _ => rfl, fun _ q => absurd ?_ q, fun q => absurd ?_ q⟩
      · rw [if_pos g1]
        by_cases h3 : 1 < n
        · have g2 : (1 : Int32) < nI n := by rw [li_1]; exact (nI_ltI (by omega) (by omega)).mpr h3
          rw [if_pos g2]
        · have g2 : ¬ (1 : Int32) < nI n := by rw [li_1, nI_ltI (by omega) (by omega)]; exact h3
          rw [if_neg g2, show n = 1 by omega]
          rfl
      · rw [li_24]; exact nI_le (by omega) (by omega)
      · rw [li_1]; exact nI_le h1 (by omega)
    · have g1 : ¬ nI n < 24 := by rw [li_24, nI_ltI (by omega) (by omega)]; exact h2
      have g2 : (1 : Int32) < 24 := by decide
      refine ⟨24, by omega, by omega, ?_, fun _ q => ?_, fun _ _ => rfl, fun q => absurd ?_ q⟩
      · rw [if_neg g1, if_pos g2]
        rfl
      · rw [li_24, nI_leI (by omega) (by omega)] at q
        rw [show n = 24 by omega]
      · rw [li_1]; exact nI_le h1 (by omega)
  · have h2 : a < 1 := Int32.not_le.mp h1
    have g1 : a < 24 := by
      rw [Int32.lt_iff_toInt_lt, show (1 : Int32).toInt = 1 from by decide] at h2
      rw [Int32.lt_iff_toInt_lt, show (24 : Int32).toInt = 24 from by decide]
      omega
    have g2 : ¬ (1 : Int32) < a := by
      intro q
      rw [Int32.lt_iff_toInt_lt, show (1 : Int32).toInt = 1 from by decide] at h2 q
      omega
    refine ⟨1, by omega, by omega, ?_, fun q => absurd q h1, fun q => absurd q h1, fun _ => rfl⟩
    rw [if_pos g1, if_neg g2]
    rfl
theorem law_pure (L : Nat) (xs : Nat → Int32) (hL : L ≤ 3586) : wpLw_start L xs := by
  unfold wpLw_start
  generalize lw_cell L xs 0 = a
  generalize lw_cell L xs 1 = b
  obtain ⟨W, hW0, hW, w1, w2, w3, w4⟩ := wth a
  obtain ⟨H, hH0, hH, h1, h2, h3, h4⟩ := wth b
  have hN := wh_le hW hH
  unfold wpCL_init wpCL_within wpSh_init wpBx_init wpPo_init wpOf_init wpPa_init wpFi_init wpCa_init
  rw [w1, h1]
  intro v hv
  rw [pk_mul] at hv
  subst hv
  have e1 : (nI (W * H)).toNatClampNeg = W * H := nz_cl (by omega)
  have e2 : nI W * 4 = nI (4 * W) := by rw [li_4, pk_mul, Nat.mul_comm]
  have e3 : (nI (4 * W)).toNatClampNeg = 4 * W := nz_cl (by omega)
  have n1 : ¬ nI (W * H) < 0 := nI_n0 (by omega)
  rw [e1, e2, e3]
  refine ⟨n1, hN, n1, hN, n1, hN, n1, hN, n1, hN, n1, hN, n1, hN, n1, hN, nI_n0 (by omega), by omega, ?_⟩
  have go : ∀ mw mh, mw = nI W → mh = nI H → wpLw_law L xs (W * H) (W * H) (W * H) (W * H) (W * H) (W * H) (W * H) 64 64 64 64 64 256 64 64 64 64 256 (W * H) 21 64 64 4 (4 * W) 4 2304 64 256 2304 576 576 576 64 64 64 576 576 2304 4 256 576 64 256 64 256 21 2304 1 (nI W) (nI H) mw mh 2 (fun _ => 0) (fun _ => 0) 0 1 (fun _ => 0) (fun _ => 0) (fun _ => 0) (fun _ => 0) 0 (fun _ => 0) (fun _ => 0) (fun _ => 0) (fun _ => 0) (fun _ => 0) (fun _ => 0) 0 (fun _ => 0) (fun _ => 0) (fun _ => 0) 0 (fun _ => 0) (fun _ => 0) 0 (fun _ => 0) 0 (fun _ => 0) (fun _ => 0) (fun _ => 0) (fun _ => 0) (fun _ => 0) (fun _ => 0) (fun _ => 0) 0 0 0 0 0 0 0 (fun _ => 0) (fun _ => 0) (fun _ => 0) (fun _ => 0) (fun _ => 0) (fun _ => 0) (fun _ => 0) (fun _ => 0) (fun _ => 0) (fun _ => 0) (fun _ => 0) (fun _ => 0) (fun _ => 0) (fun _ => 0) (fun _ => 0) (fun _ => 0) (fun _ => 0) (fun _ => 0) (fun _ => 0) (fun _ => 0) (fun _ => 0) (fun _ => 0) (fun _ => 0) := by
    rintro _ _ rfl rfl
    unfold wpLw_law
    intro K43 h43
    refine lwp_loop hL hW0 hH0 hW hH h43 L 2 _ _ _ _ _ _ _ _ _ _ _ _ _ _ _ _ _ _ _ _ _ _ _ _ _ _ _ _ _ _ _ _ _ _ _ _ _ _ _ _ _ _ _ _ _ _ _ _ _ _ _ _ _ _ _ _ _ _ _ _ _ _ (by omega) (by omega) ⟨fun _ => 0, fun _ => false, fun _ => 0, fun p hp => ⟨Nat.succ_pos 4294967295, rfl⟩, fun p hp => ⟨Nat.succ_pos 4294967295, fun c hc => ?_⟩, fun k hk => ⟨rfl, fun q => Bool.noConfusion q⟩, fun k hk => ⟨rfl, fun q => Bool.noConfusion q⟩, rfl, fun q => absurd q n10, Or.inl ⟨rfl, rfl⟩⟩
    rw [lev_z]
    rfl
  unfold wpMd_init
  exact ⟨fun q1 => ⟨fun q2 => ⟨fun q3 => ⟨fun q4 => go _ _ (w2 q1 q2) (h2 q3 q4), fun q4 => go _ _ (w2 q1 q2) (h3 q3 q4)⟩, fun q3 => go _ _ (w2 q1 q2) (h4 q3)⟩, fun q2 => ⟨fun q3 => ⟨fun q4 => go _ _ (w3 q1 q2) (h2 q3 q4), fun q4 => go _ _ (w3 q1 q2) (h3 q3 q4)⟩, fun q3 => go _ _ (w3 q1 q2) (h4 q3)⟩⟩, fun q1 => ⟨fun q3 => ⟨fun q4 => go _ _ (w4 q1) (h2 q3 q4), fun q4 => go _ _ (w4 q1) (h3 q3 q4)⟩, fun q3 => go _ _ (w4 q1) (h4 q3)⟩⟩
