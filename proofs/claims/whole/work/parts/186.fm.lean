/-! the model's means -/
theorem tot_mono {k n : Nat} {f : Nat → Nat} (h : k ≤ n) : tot k f ≤ tot n f := by
  induction n with
  | zero => rw [show k = 0 by omega]; exact Nat.le_refl _
  | succ n ih =>
    by_cases e : k = n + 1
    · rw [e]; exact Nat.le_refl _
    · rw [tot_s]
      have := ih (by omega)
      omega
theorem mcol_setc {D g : Nat} {C M : Nat → Nat} {p : Nat → Bool} {me : Nat → Int32} : upd (upd (upd (upd me (4 * g + 0) (nI (mlv (tsum D C M p 0) (sm D p M)))) (4 * g + 1) (nI (mlv (tsum D C M p 1) (sm D p M)))) (4 * g + 2) (nI (mlv (tsum D C M p 2) (sm D p M)))) (4 * g + 3) (nI (mlv (tsum D C M p 3) (sm D p M))) = setc me g (mcol D C M p) := by
  rw [← setc_of]
  unfold mcol
  rw [mcl_lev (fun _ _ => tsum_le) (by omega), mcl_lev (fun _ _ => tsum_le) (by omega), mcl_lev (fun _ _ => tsum_le) (by omega), mcl_lev (fun _ _ => tsum_le) (by omega)]
theorem sp_Md_findMean {nc nm ng nq ne D g : Nat} {a1 a2 a3 a4 a5 a6 a7 a8 : Int32} {cs ms gr me : Nat → Int32} {gm su : Nat → Int64} {C M G : Nat → Nat} {post : (Nat → Int64) → (Nat → Int32) → (Nat → Int64) → Prop}
    (hnc : nc < 2147483648) (hnm : nm < 2147483648) (hng : ng < 2147483648) (hnq : nq < 2147483648) (hne : ne < 2147483648) (hD : D ≤ 576) (hD1 : 4 * D ≤ nc) (hD2 : D ≤ nm) (hD3 : D ≤ ng) (hg : g < 576) (hg1 : g < nq) (hg2 : 4 * g + 4 ≤ ne)
    (hC : chs cs D C) (hM : ∀ k, k < D → ms k = nI (M k)) (hMt : tot D M ≤ 576) (hG : ∀ k, k < D → G k < 576 ∧ gr k = nI (G k)) (hW : 0 < sm D (pb G g) M)
    (h : ∀ su', post (vp_updL gm g (lN (sm D (pb G g) M))) (setc me g (mcol D C M (pb G g))) su') : wpMd_findMean nc nm ng nq ne 4 a1 a2 a3 (nI D) a4 a5 a6 a7 a8 cs ms gr gm me su (nI g) post := by
  have hw : ∀ k, k ≤ D → sm k (pb G g) M ≤ 576 := fun k hk => Nat.le_trans (sm_all k _ M) (Nat.le_trans (tot_mono hk) hMt)
  have hm : ∀ k, k < D → M k ≤ 576 := fun k hk => Nat.le_trans (tot_ge hk) hMt
  unfold wpMd_findMean
  intro K5 K28 K62 K122 h5 h28 h62 h122
  have ht : ∀ k c, tsum k C M (pb G g) c ≤ 255 * sm k (pb G g) M := fun k c => tsum_le
  have means : ∀ (su : Nat → Int64), (∀ c, c < 4 → su c = lN (tsum D C M (pb G g) c)) → ∀ gm, (∀ su', post gm (setc me g (mcol D C M (pb G g))) su') → K122 (lN (sm D (pb G g) M)) (nI 0) gm me su := by
    intro su hsu gm hpost
    have step : ∀ (c : Nat) (me : Nat → Int32), c < 4 → K122 (lN (sm D (pb G g) M)) (nI (c + 1)) gm (upd me (4 * g + c) (nI (mlv (tsum D C M (pb G g) c) (sm D (pb G g) M)))) su → K122 (lN (sm D (pb G g) M)) (nI c) gm me su := by
      intro c me hc hk
      apply h122
      unfold vcMd_findMean_122
      have l1 := hw D (Nat.le_refl _)
      have l2 := ht D c
      simp (disch := omega) only [li_0, li_1, li_2, li_3, li_4, li_8, li_16, li_20, li_24, li_40, li_63, li_64, li_255, li_256, li_576, nI_add, pk_mul, nz_neg, nz_sub, nz_cl, nz_le, nz_lt, nz_eq, nz_in, nz_div, true_and, forall_eq, lj_0, lj_1, lj_2, nz_l, lN_add, lN_mul, nz_lsub, nz_ldiv, nz_lle, nz_llt, nz_leq, lN_i, lc_ge, lc_le, lc_gt, lc_lt, lc_eq, hsu c hc]
      exact ⟨fun q => by omega, fun _ => ⟨by omega, hk⟩⟩
    refine step 0 me (by decide) (step 1 _ (by decide) (step 2 _ (by decide) (step 3 _ (by decide) ?_)))
    apply h122
    unfold vcMd_findMean_122
    rw [mcol_setc]
    exact ⟨fun _ => hpost su, fun q => absurd (by decide) q⟩
  have sums : ∀ (d k : Nat) (su : Nat → Int64), k + d = D → (∀ c, c < 4 → su c = lN (tsum k C M (pb G g) c)) → K28 (lN (sm k (pb G g) M)) (nI k) gm me su := by
    intro d
    induction d with
    | zero =>
      intro k su hk hsu
      have : k = D := by omega
      subst this
      apply h28
      unfold vcMd_findMean_28
      refine ⟨fun _ => ⟨vp_in_nI hg1 (by omega), ?_⟩, fun q => absurd (nI_le (Nat.le_refl _) (by omega)) q⟩
      rw [nz_cl (by omega)]
      exact means su hsu _ h
    | succ d ih =>
      intro k su hk hsu
      obtain ⟨g1, g2⟩ := hG k (by omega)
      have hmk := hm k (by omega)
      apply h28
      unfold vcMd_findMean_28 vcMd_findMean_106
      have l1 := hw k (by omega)
      simp (disch := omega) only [li_0, li_1, li_2, li_3, li_4, li_8, li_16, li_20, li_24, li_40, li_63, li_64, li_255, li_256, li_576, nI_add, pk_mul, nz_neg, nz_sub, nz_cl, nz_le, nz_lt, nz_eq, nz_in, nz_div, true_and, forall_eq, lj_0, lj_1, lj_2, nz_l, lN_add, lN_mul, nz_lsub, nz_ldiv, nz_lle, nz_llt, nz_leq, lN_i, lc_ge, lc_le, lc_gt, lc_lt, lc_eq, g2, hM k (by omega)]
      refine ⟨fun q => by omega, fun _ => ⟨fun q => ?_, fun q => ?_⟩⟩
      · have e1 : ∀ f, sm (k + 1) (pb G g) f = sm k (pb G g) f := fun f => by rw [sm_s, if_neg (fun z => q (pb_t.mp z)), Nat.add_zero]
        have := ih (k + 1) su (by omega) (fun c hc => by rw [hsu c hc]; unfold tsum; rw [e1])
        rw [e1] at this
        exact this
      · have e1 : ∀ f, sm (k + 1) (pb G g) f = sm k (pb G g) f + f k := fun f => by rw [sm_s, if_pos (pb_t.mpr q)]
        have inner : ∀ (e c : Nat) (su : Nat → Int64), c + e = 4 → (∀ x, x < 4 → su x = lN (if x < c then tsum (k + 1) C M (pb G g) x else tsum k C M (pb G g) x)) → K62 (lN (sm k (pb G g) M + M k)) (nI k) (nI c) gm me su := by
          intro e
          induction e with
          | zero =>
            intro c su hc hx
            have : c = 4 := by omega
            subst this
            apply h62
            unfold vcMd_findMean_62 vcMd_findMean_106
            refine ⟨fun _ => ?_, fun q => absurd (by decide) q⟩
            have := ih (k + 1) su (by omega) (fun c hc => by rw [hx c hc, if_pos hc])
            rw [e1] at this
            rw [nI_1]
            exact this
          | succ e ihe =>
            intro c su hc hx
            apply h62
            unfold vcMd_findMean_62
            have hcc := (hC k (by omega)).2 c (by omega)
            have l := lev_lt (C k) c
            have hxc := hx c (by omega)
            rw [if_neg (Nat.lt_irrefl _)] at hxc
            simp (disch := omega) only [li_0, li_1, li_2, li_3, li_4, li_8, li_16, li_20, li_24, li_40, li_63, li_64, li_255, li_256, li_576, nI_add, pk_mul, nz_neg, nz_sub, nz_cl, nz_le, nz_lt, nz_eq, nz_in, nz_div, true_and, forall_eq, lj_0, lj_1, lj_2, nz_l, lN_add, lN_mul, nz_lsub, nz_ldiv, nz_lle, nz_llt, nz_leq, lN_i, lc_ge, lc_le, lc_gt, lc_lt, lc_eq, hM k (by omega), hcc, hxc]
            refine ⟨fun q => by omega, fun _ => ihe (c + 1) _ (by omega) (fun x hx2 => ?_)⟩
            simp only [vp_updL]
            by_cases e3 : x = c
            · rw [if_pos e3, if_pos (by omega), e3]
              unfold tsum
              rw [e1]
            · rw [if_neg e3, hx x hx2]
              by_cases e4 : x < c
              · rw [if_pos e4, if_pos (by omega)]
              · rw [if_neg e4, if_neg (by omega)]
        exact inner 4 0 su rfl (fun x hx => by rw [if_neg (Nat.not_lt_zero _)]; exact hsu x hx)
  have zero : ∀ (d c : Nat) (su : Nat → Int64), c + d = 4 → (∀ x, x < c → su x = lN 0) → K5 (lN 0) (nI c) gm me su := by
    intro d
    induction d with
    | zero =>
      intro c su hc hx
      have : c = 4 := by omega
      subst this
      apply h5
      unfold vcMd_findMean_5
      exact ⟨fun _ => sums D 0 su (by omega) hx, fun q => absurd (by decide) q⟩
    | succ d ih =>
      intro c su hc hx
      apply h5
      unfold vcMd_findMean_5
      simp (disch := omega) only [li_0, li_1, li_2, li_3, li_4, li_8, li_16, li_20, li_24, li_40, li_63, li_64, li_255, li_256, li_576, nI_add, pk_mul, nz_neg, nz_sub, nz_cl, nz_le, nz_lt, nz_eq, nz_in, nz_div, true_and, forall_eq]
      refine ⟨fun q => by omega, fun _ => ih (c + 1) _ (by omega) (fun x hx2 => ?_)⟩
      simp only [vp_updL]
      by_cases e : x = c
      · rw [if_pos e]; rfl
      · rw [if_neg e]; exact hx x (by omega)
  exact zero 4 0 su rfl (fun x hx => absurd hx (Nat.not_lt_zero _))
