/-! the model's rounds -/
def tkp (N : Nat) (S : Nat → Nat) (z : Nat) (P : Nat → Nat) (j : Nat) : Nat := tot N (fun p => if near z P (S p) = j then 1 else 0)
def tsp (N : Nat) (S : Nat → Nat) (z : Nat) (P : Nat → Nat) (j c : Nat) : Nat := tot N (fun p => if near z P (S p) = j then lev (S p) c else 0)
def nsp (N : Nat) (S : Nat → Nat) (z : Nat) (P : Nat → Nat) : Nat := tot N (fun p => far (S p) (P (near z P (S p))))
theorem tkp_D {N D z j : Nat} {S C M P : Nat → Nat} (h : shOK N S D C M) : tkp N S z P j = sm D (npb z P C j) M := by
  unfold tkp sm
  rw [shOK_sum h (fun t => if near z P t = j then 1 else 0)]
  refine tot_congr (fun k hk => ?_)
  try dsimp only
  by_cases c : near z P (C k) = j
  · rw [if_pos c, if_pos (npb_t.mpr c), Nat.mul_one]
  · rw [if_neg c, if_neg (fun q => c (npb_t.mp q)), Nat.mul_zero]
theorem tsp_D {N D z j c : Nat} {S C M P : Nat → Nat} (h : shOK N S D C M) : tsp N S z P j c = tsum D C M (npb z P C j) c := by
  unfold tsp tsum sm
  rw [shOK_sum h (fun t => if near z P t = j then lev t c else 0)]
  refine tot_congr (fun k hk => ?_)
  try dsimp only
  by_cases e : near z P (C k) = j
  · rw [if_pos e, if_pos (npb_t.mpr e)]
  · rw [if_neg e, if_neg (fun q => e (npb_t.mp q)), Nat.mul_zero]
theorem nsp_D {N D z : Nat} {S C M P : Nat → Nat} (h : shOK N S D C M) : nsp N S z P = nsm D C M z P := shOK_sum h (fun t => far t (P (near z P t)))
theorem nsp_le {N z : Nat} {S P : Nat → Nat} : nsp N S z P ≤ 260100 * N := by
  have := tot_le (n := N) (f := fun p => far (S p) (P (near z P (S p)))) (g := fun _ => 260100 * 1) (fun i _ => far_le _ _)
  rw [tot_mul N 260100 (fun _ => 1), tot_c] at this
  exact this
theorem tkp_le {N z j : Nat} {S P : Nat → Nat} : tkp N S z P j ≤ N := by
  have := tot_le (n := N) (f := fun p => if near z P (S p) = j then 1 else 0) (g := fun _ => 1) (fun i _ => by split <;> omega)
  rw [tot_c] at this
  exact this
theorem tsp_le {N z j c : Nat} {S P : Nat → Nat} : tsp N S z P j c ≤ 255 * tkp N S z P j := by
  unfold tsp tkp
  rw [← tot_mul]
  refine tot_le (fun i _ => ?_)
  have := lev_lt (S i) c
  split <;> omega
/-- the model's count of takers and sums of channels -/
def mtk (N : Nat) (S : Nat → Nat) (z : Nat) (P : Nat → Nat) (tk : Nat → Int32) (ts : Nat → Int64) : Prop := ∀ j, j < z → tk j = nI (tkp N S z P j) ∧ ∀ c, c < 4 → ts (4 * j + c) = lN (tsp N S z P j c)
theorem sp_Md_take {W H N z : Nat} {a1 a2 a3 a4 a5 a6 : Int32} {sa pa ha tk : Nat → Int32} {ts : Nat → Int64} {S P : Nat → Nat} {post : Int64 → (Nat → Int32) → (Nat → Int32) → (Nat → Int64) → Prop}
    (hN : W * H = N) (hN1 : N ≤ 576) (hz0 : 0 < z) (hz : z ≤ 64) (hS : chs sa N S) (hP : chs pa z P)
    (h : ∀ ha' tk' ts', (∀ p, p < N → ha' p = nI (near z P (S p))) → mtk N S z P tk' ts' → post (lN (nsp N S z P)) ha' tk' ts') :
    wpMd_take 2304 256 576 64 256 a1 (nI W) (nI H) a2 a3 a4 a5 (nI z) a6 sa pa ha tk ts post := by
  unfold wpMd_take
  intro K4 K22 K54 K123 h4 h22 h54 h123
  have l54 : ∀ (d p : Nat) (ha tk : Nat → Int32) (ts : Nat → Int64), p + d = N → (∀ q, q < p → ha q = nI (near z P (S q))) → mtk p S z P tk ts → K54 (lN (nsp p S z P)) (nI p) ha tk ts := by
    intro d
    induction d with
    | zero =>
      intro p ha tk ts hp hha hm
      have : p = N := by omega
      subst this
      apply h54
      unfold vcMd_take_54
      rw [pk_mul, hN]
      exact ⟨fun _ => h ha tk ts hha hm, fun q => absurd (nI_le (Nat.le_refl _) (by omega)) q⟩
    | succ d ih =>
      intro p ha tk ts hp hha hm
      have hl := near_lt (z := z) (P := P) (t := S p) hz0
      have hf := far_le (P (near z P (S p))) (S p)
      have hs := nsp_le (N := p) (S := S) (z := z) (P := P)
      have ht := tkp_le (N := p) (S := S) (z := z) (P := P) (j := near z P (S p))
      obtain ⟨m1, m2⟩ := hm _ hl
      apply h54
      unfold vcMd_take_54
      rw [pk_mul, hN]
      refine ⟨fun q => absurd q (nI_ge (by omega) (by omega)), fun _ => ?_⟩
      simp (disch := omega) only [li_0, li_1, li_2, li_3, li_4, li_8, li_16, li_20, li_24, li_40, li_63, li_64, li_255, li_256, li_576, nI_add, pk_mul, nz_neg, nz_sub, nz_cl, nz_le, nz_lt, nz_eq, nz_in, nz_div, true_and, forall_eq]
      refine sp_Md_nearestTo (by omega) (by omega) (by omega) hz0 (by omega) hP (chs_A hS (by omega)) (fun k hk => ?_)
      have e := near_of hk
      rw [← e]
      clear hk e k
      simp (disch := omega) only [li_0, li_1, li_2, li_3, li_4, li_8, li_16, li_20, li_24, li_40, li_63, li_64, li_255, li_256, li_576, nI_add, pk_mul, nz_neg, nz_sub, nz_cl, nz_le, nz_lt, nz_eq, nz_in, nz_div, true_and, forall_eq, m1]
      refine sp_Md_far (by omega) (by omega) (by omega) (by omega) (chs_A hP hl) (chs_A hS (by omega)) ?_
      simp (disch := omega) only [li_0, li_1, li_2, li_3, li_4, li_8, li_16, li_20, li_24, li_40, li_63, li_64, li_255, li_256, li_576, nI_add, pk_mul, nz_neg, nz_sub, nz_cl, nz_le, nz_lt, nz_eq, nz_in, nz_div, true_and, forall_eq, lj_0, lj_1, lj_2, nz_l, lN_add, lN_mul, nz_lsub, nz_ldiv, nz_lle, nz_llt, nz_leq, lN_i, lc_ge, lc_le, lc_gt, lc_lt, lc_eq]
      rw [far_comm]
      have l123 : ∀ (f c : Nat) (ts' : Nat → Int64), c + f = 4 → (∀ j, j < z → ∀ x, x < 4 → ts' (4 * j + x) = if j = near z P (S p) ∧ x < c then lN (tsp p S z P j x + lev (S p) x) else lN (tsp p S z P j x)) → K123 (lN (nsp p S z P + far (S p) (P (near z P (S p))))) (nI p) (nI (near z P (S p))) (nI c) (upd ha p (nI (near z P (S p)))) (upd tk (near z P (S p)) (nI (tkp p S z P (near z P (S p)) + 1))) ts' := by
        intro f
        induction f with
        | zero =>
          intro c ts' hc hts
          have : c = 4 := by omega
          subst this
          apply h123
          unfold vcMd_take_123
          rw [nI_1]
          refine ⟨fun _ => ih (p + 1) _ _ _ (by omega) (fun q hq => ?_) (fun j hj => ⟨?_, fun x hx => ?_⟩), fun q => absurd (by decide) q⟩
          · by_cases e : q = p
            · rw [e]; exact pk_us
            · exact (pk_un e).trans (hha q (by omega))
          · by_cases e : j = near z P (S p)
            · rw [e, pk_us]
              unfold tkp
              rw [tot_s, if_pos rfl]
            · rw [pk_un e, (hm j hj).1]
              unfold tkp
              rw [tot_s, if_neg (fun q => e q.symm), Nat.add_zero]
          · rw [hts j hj x hx]
            unfold tsp
            rw [tot_s]
            by_cases e : j = near z P (S p)
            · rw [if_pos ⟨e, hx⟩, if_pos e.symm]
            · rw [if_neg (fun q => e q.1), if_neg (fun q => e q.symm), Nat.add_zero]
        | succ f ihf =>
          intro c ts' hc hts
          have hn := hts _ hl c (by omega)
          rw [if_neg (by omega)] at hn
          have hsc := (hS p (by omega)).2 c (by omega)
          have hlv := lev_lt (S p) c
          apply h123
          unfold vcMd_take_123
          refine ⟨fun q => absurd q (by rw [li_4]; exact nI_ge (by omega) (by omega)), fun _ => ?_⟩
          simp (disch := omega) only [li_0, li_1, li_2, li_3, li_4, li_8, li_16, li_20, li_24, li_40, li_63, li_64, li_255, li_256, li_576, nI_add, pk_mul, nz_neg, nz_sub, nz_cl, nz_le, nz_lt, nz_eq, nz_in, nz_div, true_and, forall_eq, hn, hsc]
          rw [nz_l (by omega), lN_add]
          refine ihf (c + 1) _ (by omega) (fun j hj x hx => ?_)
          by_cases e : 4 * j + x = 4 * near z P (S p) + c
          · rw [e, pk_uLs]
            have e1 : j = near z P (S p) := by omega
            have e2 : x = c := by omega
            rw [if_pos ⟨e1, by omega⟩, e1, e2]
          · rw [pk_uLn e, hts j hj x hx]
            by_cases e3 : j = near z P (S p) ∧ x < c
            · rw [if_pos e3, if_pos (by omega)]
            · rw [if_neg e3, if_neg (by omega)]
      exact l123 4 0 ts (by omega) (fun j hj x hx => by rw [if_neg (fun q => absurd q.2 (Nat.not_lt_zero _))]; exact (hm j hj).2 x hx)
  have l4 : ∀ (d j : Nat) (tk : Nat → Int32) (ts : Nat → Int64), j + d = z → mtk 0 S j P tk ts → K4 (lN 0) (nI j) ha tk ts := by
    intro d
    induction d with
    | zero =>
      intro j tk ts hj hm
      have : j = z := by omega
      subst this
      apply h4
      unfold vcMd_take_4
      exact ⟨fun _ => l54 N 0 ha tk ts (by omega) (fun q hq => absurd hq (Nat.not_lt_zero _)) hm, fun q => absurd (nI_le (Nat.le_refl _) (by omega)) q⟩
    | succ d ih =>
      intro j tk ts hj hm
      have l22 : ∀ (f c : Nat) (ts' : Nat → Int64), c + f = 4 → (∀ i, i ≤ j → ∀ x, x < 4 → (i < j ∨ x < c) → ts' (4 * i + x) = lN 0) → K22 (lN 0) (nI j) (nI c) ha (upd tk j (nI 0)) ts' := by
        intro f
        induction f with
        | zero =>
          intro c ts' hc hts
          have : c = 4 := by omega
          subst this
          apply h22
          unfold vcMd_take_22
          rw [nI_1]
          refine ⟨fun _ => ih (j + 1) _ _ (by omega) (fun i hi => ⟨?_, fun x hx => ?_⟩), fun q => absurd (by decide) q⟩
          · by_cases e : i = j
            · rw [e, pk_us]; rfl
            · exact (pk_un e).trans (hm i (by omega)).1
          · exact hts i (by omega) x hx (by omega)
        | succ f ihf =>
          intro c ts' hc hts
          apply h22
          unfold vcMd_take_22
          refine ⟨fun q => absurd q (by rw [li_4]; exact nI_ge (by omega) (by omega)), fun _ => ?_⟩
          simp (disch := omega) only [li_0, li_1, li_2, li_3, li_4, li_8, li_16, li_20, li_24, li_40, li_63, li_64, li_255, li_256, li_576, nI_add, pk_mul, nz_neg, nz_sub, nz_cl, nz_le, nz_lt, nz_eq, nz_in, nz_div, true_and, forall_eq, lj_0, lj_1, lj_2, nz_l, lN_add, lN_mul, nz_lsub, nz_ldiv, nz_lle, nz_llt, nz_leq, lN_i, lc_ge, lc_le, lc_gt, lc_lt, lc_eq]
          refine ihf (c + 1) _ (by omega) (fun i hi x hx hor => ?_)
          by_cases e : 4 * i + x = 4 * j + c
          · rw [e]; exact pk_uLs
          · exact (pk_uLn e).trans (hts i hi x hx (by omega))
      apply h4
      unfold vcMd_take_4
      refine ⟨fun q => absurd q (nI_ge (by omega) (by omega)), fun _ => ?_⟩
      simp (disch := omega) only [li_0, li_1, li_2, li_3, li_4, li_8, li_16, li_20, li_24, li_40, li_63, li_64, li_255, li_256, li_576, nI_add, pk_mul, nz_neg, nz_sub, nz_cl, nz_le, nz_lt, nz_eq, nz_in, nz_div, true_and, forall_eq]
      refine l22 4 0 ts (by omega) (fun i hi x hx hor => ?_)
      exact (hm i (by omega)).2 x hx
  exact l4 z 0 tk ts (by omega) (fun j hj => absurd hj (Nat.not_lt_zero _))
theorem sp_Md_toMeans {N D z : Nat} {a1 a2 a3 a4 a5 a6 a7 a8 : Int32} {pa tk : Nat → Int32} {ts : Nat → Int64} {S C M P : Nat → Nat} {post : (Nat → Int32) → Prop}
    (hN1 : N ≤ 576) (hz : z ≤ 64) (hsh : shOK N S D C M) (hP : chs pa z P) (hm : mtk N S z P tk ts) (h : ∀ pa', chs pa' z (mv D C M z P) → post pa') :
    wpMd_toMeans 256 64 256 a1 a2 a3 a4 a5 a6 a7 (nI z) a8 pa tk ts post := by
  unfold wpMd_toMeans
  intro K2 K21 h2 h21
  have loop : ∀ (d i : Nat) (pa : Nat → Int32), i + d = z → chs pa z (fun j => if j < i then mv D C M z P j else P j) → K2 (nI i) pa := by
    intro d
    induction d with
    | zero =>
      intro i pa hi hpa
      have : i = z := by omega
      subst this
      apply h2
      unfold vcMd_toMeans_2
      exact ⟨fun _ => h pa (chs_cg hpa (fun j hj => by rw [if_pos hj])), fun q => absurd (nI_le (Nat.le_refl _) (by omega)) q⟩
    | succ d ih =>
      intro i pa hi hpa
      obtain ⟨m1, m2⟩ := hm i (by omega)
      have hW := tkp_le (N := N) (S := S) (z := z) (P := P) (j := i)
      have hT : ∀ c, tsp N S z P i c ≤ 255 * tkp N S z P i := fun c => tsp_le
      apply h2
      unfold vcMd_toMeans_2
      refine ⟨fun q => absurd q (nI_ge (by omega) (by omega)), fun _ => ?_⟩
      simp (disch := omega) only [li_0, li_1, li_2, li_3, li_4, li_8, li_16, li_20, li_24, li_40, li_63, li_64, li_255, li_256, li_576, nI_add, pk_mul, nz_neg, nz_sub, nz_cl, nz_le, nz_lt, nz_eq, nz_in, nz_div, true_and, forall_eq, m1]
      rw [nz_l (by omega)]
      by_cases c0 : tkp N S z P i = 0
      · apply h21
        unfold vcMd_toMeans_21 vcMd_toMeans_74
        refine ⟨fun q => absurd q (by rw [li_4]; exact nI_ge (by omega) (by omega)), fun _ => ⟨fun _ => ?_, fun q => absurd ?_ q⟩⟩
        · rw [nI_1]
          refine ih (i + 1) pa (by omega) (chs_cg hpa (fun j hj => ?_))
          by_cases e : j = i
          · rw [if_pos (by omega), if_neg (by omega), e]
            show (if sm D (npb z P C i) M = 0 then P i else _) = P i
            rw [if_pos (by rw [← tkp_D hsh]; exact c0)]
          · by_cases e2 : j < i
            · rw [if_pos e2, if_pos (by omega)]
            · rw [if_neg e2, if_neg (by omega)]
        · rw [c0]
          decide
      · have step : ∀ (c : Nat) (g : Nat → Int32), c < 4 → K21 (nI i) (lN (tkp N S z P i)) (nI (c + 1)) (upd g (4 * i + c) (nI (lev (mcl (tsp N S z P i) (tkp N S z P i)) c))) → K21 (nI i) (lN (tkp N S z P i)) (nI c) g := by
          intro c g hc hk
          have hTc := hT c
          apply h21
          unfold vcMd_toMeans_21 vcMd_toMeans_74
          refine ⟨fun q => absurd q (by rw [li_4]; exact nI_ge (by omega) (by omega)), fun _ => ?_⟩
          simp (disch := omega) only [li_0, li_1, li_2, li_3, li_4, li_8, li_16, li_20, li_24, li_40, li_63, li_64, li_255, li_256, li_576, nI_add, pk_mul, nz_neg, nz_sub, nz_cl, nz_le, nz_lt, nz_eq, nz_in, nz_div, true_and, forall_eq, m2 c hc]
          simp (disch := omega) only [li_0, li_1, li_2, li_3, li_4, li_8, li_16, li_20, li_24, li_40, li_63, li_64, li_255, li_256, li_576, nI_add, pk_mul, nz_neg, nz_sub, nz_cl, nz_le, nz_lt, nz_eq, nz_in, nz_div, true_and, forall_eq, lj_0, lj_1, lj_2, nz_l, lN_add, lN_mul, nz_lsub, nz_ldiv, nz_lle, nz_llt, nz_leq, lN_i, lc_ge, lc_le, lc_gt, lc_lt, lc_eq]
          rw [mcl_lev (fun c _ => hT c) hc] at hk
          exact ⟨fun q => absurd q (by omega), fun _ => ⟨by omega, hk⟩⟩
        refine step 0 _ (by omega) (step 1 _ (by omega) (step 2 _ (by omega) (step 3 _ (by omega) ?_)))
        rw [setc_of]
        apply h21
        unfold vcMd_toMeans_21 vcMd_toMeans_74
        rw [nI_1]
        refine ⟨fun _ => ?_, fun q => absurd (by decide) q⟩
        refine ih (i + 1) _ (by omega) (chs_cg (chs_set hpa (mcl_lt (fun c _ => hT c))) (fun j hj => ?_))
        by_cases e : j = i
        · rw [if_pos e, if_pos (by omega), e]
          show (if sm D (npb z P C i) M = 0 then P i else mcol D C M (npb z P C i)) = _
          rw [if_neg (by rw [← tkp_D hsh]; exact c0)]
          unfold mcol
          rw [← tkp_D hsh, show tsum D C M (npb z P C i) = tsp N S z P i from funext (fun c => (tsp_D hsh).symm)]
        · rw [if_neg e]
          by_cases e2 : j < i
          · rw [if_pos e2, if_pos (by omega)]
          · rw [if_neg e2, if_neg (by omega)]
  exact loop z 0 pa (by omega) (chs_cg hP (fun j hj => if_neg (Nat.not_lt_zero _)))
