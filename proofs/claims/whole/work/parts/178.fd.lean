/-! the model finds the different colours -/
theorem sp_Md_findDifferent {ns nc nm w h N : Nat} {a1 a2 a3 a4 a5 a6 a7 : Int32} {sa cs ms : Nat → Int32} {S : Nat → Nat} {post : Int32 → (Nat → Int32) → (Nat → Int32) → Prop}
    (hns : ns < 2147483648) (hnc : nc < 2147483648) (hnm : nm < 2147483648) (hN : w * h = N) (h1 : N ≤ 576) (h2 : 4 * N ≤ ns) (h3 : 4 * N ≤ nc) (h4 : N ≤ nm) (hS : chs sa N S)
    (hp : ∀ D C M cs' ms', shOK N S D C M → chs cs' D C → (∀ k, k < D → ms' k = nI (M k)) → post (nI D) cs' ms') : wpMd_findDifferent ns nc nm a1 (nI w) (nI h) a2 a3 a4 a5 a6 a7 sa cs ms post := by
  unfold wpMd_findDifferent
  intro K7 K22 K102 h7 h22 h102
  have loop7 : ∀ (d p D : Nat) (C M : Nat → Nat) (cs' ms' : Nat → Int32), p + d = N → shOK p S D C M → chs cs' D C → (∀ k, k < D → ms' k = nI (M k)) → K7 (nI p) (nI D) cs' ms' := by
    intro d
    induction d with
    | zero =>
      intro p D C M cs' ms' hpd hsh hc hm
      apply h7
      have : p = N := by omega
      subst this
      unfold vcMd_findDifferent_7
      simp (disch := omega) only [li_0, li_1, li_2, li_3, li_4, li_8, li_16, li_20, li_24, li_40, li_63, li_64, li_255, li_256, li_576, nI_add, pk_mul, nz_neg, nz_sub, nz_cl, nz_le, nz_lt, nz_eq, nz_in, nz_div, true_and, forall_eq, hN]
      exact ⟨fun _ => hp D C M cs' ms' hsh hc hm, fun q => absurd (Nat.le_refl _) q⟩
    | succ d ih =>
      intro p D C M cs' ms' hpd hsh hc hm
      have hD := shOK_D hsh
      have hS0 := hS p (by omega)
      apply h7
      unfold vcMd_findDifferent_7
      simp (disch := omega) only [li_0, li_1, li_2, li_3, li_4, li_8, li_16, li_20, li_24, li_40, li_63, li_64, li_255, li_256, li_576, nI_add, pk_mul, nz_neg, nz_sub, nz_cl, nz_le, nz_lt, nz_eq, nz_in, nz_div, true_and, forall_eq, hN]
      refine ⟨fun q => by omega, fun _ => ?_⟩
      have shift : ∀ (e k j : Nat) (cs' ms' : Nat → Int32), k + e = j → j ≤ D → (∀ i, i < k → C i < S p) → (∀ i, k ≤ i → i < D → S p < C i) →
          (∀ i, i < j → C i < 4294967296 ∧ chA cs' (4 * i) (C i) ∧ ms' i = nI (M i)) → (∀ i, j < i → i ≤ D → C (i - 1) < 4294967296 ∧ chA cs' (4 * i) (C (i - 1)) ∧ ms' i = nI (M (i - 1))) → K102 (nI p) (nI k) (nI j) (nI D) cs' ms' := by
        intro e
        induction e with
        | zero =>
          intro k j cs' ms' hkj hj hlt hgt hlo hhi
          have : k = j := by omega
          subst this
          apply h102
          unfold vcMd_findDifferent_102 vcMd_findDifferent_180
          simp (disch := omega) only [li_0, li_1, li_2, li_3, li_4, li_8, li_16, li_20, li_24, li_40, li_63, li_64, li_255, li_256, li_576, nI_add, pk_mul, nz_neg, nz_sub, nz_cl, nz_le, nz_lt, nz_eq, nz_in, nz_div, true_and, forall_eq]
          refine ⟨fun _ => sp_Md_copy (t := S p) hns hnc (by omega) (by omega) hS0.2 ?_, fun q => absurd (Nat.le_refl _) q⟩
          refine ih (p + 1) (D + 1) (insf C k (S p)) (insf M k 1) _ _ (by omega) (shOK_ins hsh hj hlt hgt) (fun i hi => ?_) (fun i hi => ?_)
          · unfold insf
            by_cases c : i < k
            · rw [if_pos c]
              refine ⟨(hlo i c).1, fun c2 hc2 => ?_⟩
              rw [setc_out (by omega)]
              exact (hlo i c).2.1 c2 hc2
            · rw [if_neg c]
              by_cases c2 : i = k
              · subst c2
                rw [if_pos rfl]
                exact ⟨hS0.1, fun c2 hc2 => setc_in hc2⟩
              · rw [if_neg c2]
                refine ⟨(hhi i (by omega) (by omega)).1, fun c2 hc2 => ?_⟩
                rw [setc_out (by omega)]
                exact (hhi i (by omega) (by omega)).2.1 c2 hc2
          · unfold insf upd
            by_cases c : i < k
            · rw [if_pos c, if_neg (by omega)]
              exact (hlo i c).2.2
            · rw [if_neg c]
              by_cases c2 : i = k
              · rw [if_pos c2, if_pos c2]
              · rw [if_neg c2, if_neg c2]
                exact (hhi i (by omega) (by omega)).2.2
        | succ e ihe =>
          intro k j cs' ms' hkj hj hlt hgt hlo hhi
          apply h102
          unfold vcMd_findDifferent_102
          simp (disch := omega) only [li_0, li_1, li_2, li_3, li_4, li_8, li_16, li_20, li_24, li_40, li_63, li_64, li_255, li_256, li_576, nI_add, pk_mul, nz_neg, nz_sub, nz_cl, nz_le, nz_lt, nz_eq, nz_in, nz_div, true_and, forall_eq]
          refine ⟨fun q => by omega, fun _ => ?_⟩
          have hl := hlo (j - 1) (by omega)
          refine sp_Md_copy__02 (t := C (j - 1)) hnc (by omega) (by omega) (by rw [show 4 * j - 4 = 4 * (j - 1) by omega]; exact hl.2.1) ?_
          refine ihe k (j - 1) _ _ (by omega) (by omega) hlt hgt (fun i hi => ⟨(hlo i (by omega)).1, fun c2 hc2 => ?_, ?_⟩) (fun i hi1 hi2 => ?_)
          · rw [setc_out (by omega)]
            exact (hlo i (by omega)).2.1 c2 hc2
          · rw [pk_un (by omega)]
            exact (hlo i (by omega)).2.2
          · by_cases c : i = j
            · subst c
              refine ⟨hl.1, fun c2 hc2 => setc_in hc2, ?_⟩
              rw [pk_us]
              exact hl.2.2
            · have hh := hhi i (by omega) hi2
              refine ⟨hh.1, fun c2 hc2 => ?_, ?_⟩
              · rw [setc_out (by omega)]
                exact hh.2.1 c2 hc2
              · rw [pk_un (by omega)]
                exact hh.2.2
      have ins : ∀ k, k ≤ D → (∀ i, i < k → C i < S p) → (∀ i, k ≤ i → i < D → S p < C i) → K102 (nI p) (nI k) (nI D) (nI D) cs' ms' := by
        intro k hk a b
        exact shift (D - k) k D cs' ms' (by omega) (Nat.le_refl _) a b (fun i hi => ⟨(hc i hi).1, (hc i hi).2, hm i hi⟩) (fun i hi1 hi2 => by omega)
      have scan : ∀ (e k : Nat), k + e = D → (∀ i, i < k → C i < S p) → K22 (nI p) (nI k) (nI D) cs' ms' := by
        intro e
        induction e with
        | zero =>
          intro k hk hlt
          have : k = D := by omega
          subst this
          apply h22
          unfold vcMd_findDifferent_22 vcMd_findDifferent_56 vcMd_findDifferent_97
          simp (disch := omega) only [li_0, li_1, li_2, li_3, li_4, li_8, li_16, li_20, li_24, li_40, li_63, li_64, li_255, li_256, li_576, nI_add, pk_mul, nz_neg, nz_sub, nz_cl, nz_le, nz_lt, nz_eq, nz_in, nz_div, true_and, forall_eq]
          exact ⟨fun _ => ⟨fun _ => ins k (Nat.le_refl _) hlt (fun i a b => by omega), fun q => absurd (Nat.le_refl _) q⟩, fun q => absurd (Nat.le_refl _) q⟩
        | succ e ihe =>
          intro k hk hlt
          apply h22
          unfold vcMd_findDifferent_22
          simp (disch := omega) only [li_0, li_1, li_2, li_3, li_4, li_8, li_16, li_20, li_24, li_40, li_63, li_64, li_255, li_256, li_576, nI_add, pk_mul, nz_neg, nz_sub, nz_cl, nz_le, nz_lt, nz_eq, nz_in, nz_div, true_and, forall_eq]
          refine ⟨fun q => by omega, fun _ => ?_⟩
          have go : ∀ r, (C k = S p → r = nI 0) → (C k ≠ S p → r ≠ nI 0) → S p ≤ C k → vcMd_findDifferent_56 ns nc nm a1 (nI w) (nI h) a3 a4 a5 a6 a7 sa K7 K22 K102 post (nI p) (nI k) (nI D) cs' ms' := by
            intro r _ _ hle
            unfold vcMd_findDifferent_56 vcMd_findDifferent_97 vcMd_findDifferent_180
            simp (disch := omega) only [li_0, li_1, li_2, li_3, li_4, li_8, li_16, li_20, li_24, li_40, li_63, li_64, li_255, li_256, li_576, nI_add, pk_mul, nz_neg, nz_sub, nz_cl, nz_le, nz_lt, nz_eq, nz_in, nz_div, true_and, forall_eq]
            refine ⟨fun q => by omega, fun _ => ?_⟩
            have hin : S p < C k → K102 (nI p) (nI k) (nI D) (nI D) cs' ms' := fun q => ins k (by omega) hlt (fun i a b => by
              by_cases e2 : i = k
              · rw [e2]; exact q
              · have := hsh.1 k i (by omega) b
                omega)
            refine sp_Md_compare hnc hns (by omega) (by omega) (hc k (by omega)).1 hS0.1 (hc k (by omega)).2 hS0.2 (fun q => ?_) (fun q r hr => by omega) (fun q r hr => ?_)
            · refine ⟨fun q2 => absurd rfl q2, fun _ => ?_⟩
              rw [hm k (by omega), nI_add]
              refine ih (p + 1) D C _ _ _ (by omega) (shOK_old hsh (k := k) (by omega) q) hc (fun i hi => ?_)
              simp only [upd]
              by_cases e2 : i = k
              · rw [if_pos e2, if_pos e2]
              · rw [if_neg e2, if_neg e2]; exact hm i hi
            · refine ⟨fun _ => hin q, fun q2 => ?_⟩
              rw [q2] at hr
              exact absurd hr Int32.lt_irrefl
          refine sp_Md_compare hnc hns (by omega) (by omega) (hc k (by omega)).1 hS0.1 (hc k (by omega)).2 hS0.2 (fun q => ?_) (fun q r hr => ?_) (fun q r hr => ?_)
          · exact ⟨fun _ => go (nI 0) (fun _ => rfl) (fun q2 => absurd q q2) (by omega), fun q2 => absurd (Int32.le_refl _) q2⟩
          · refine ⟨fun q2 => absurd hr (Int32.not_lt.mpr q2), fun _ => ?_⟩
            refine ihe (k + 1) (by omega) (fun i hi => ?_)
            by_cases e2 : i = k
            · rw [e2]; exact q
            · exact hlt i (by omega)
          · refine ⟨fun _ => go r (fun q2 => by omega) (fun _ q3 => ?_) (by omega), fun q2 => absurd (Int32.le_of_lt hr) q2⟩
            rw [q3] at hr
            exact absurd hr Int32.lt_irrefl
      exact scan D 0 (by omega) (fun i hi => absurd hi (Nat.not_lt_zero _))
  exact loop7 N 0 0 (fun _ => 0) (fun _ => 0) cs ms (by omega) shOK_0 (fun k hk => absurd hk (Nat.not_lt_zero _)) (fun k hk => absurd hk (Nat.not_lt_zero _))
