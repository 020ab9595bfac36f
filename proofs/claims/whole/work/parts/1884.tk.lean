/-! rounds: who takes which colour, and the means -/
def near (z : Nat) (P : Nat → Nat) (t : Nat) : Nat := fmin z (fun j => far t (P j))
theorem near_lt {z : Nat} {P : Nat → Nat} {t : Nat} (hz : 0 < z) : near z P t < z := fmin_lt hz _
theorem near_of {z : Nat} {P : Nat → Nat} {t k : Nat} (h : nrr z P t k) : near z P t = k := fmin_eq h
theorem near_cg {z : Nat} {P P' : Nat → Nat} {t : Nat} (h : ∀ j, j < z → P j = P' j) : near z P t = near z P' t := fmin_congr (fun j hj => by rw [h j hj])
def npb (z : Nat) (P C : Nat → Nat) (j : Nat) : Nat → Bool := fun k => decide (near z P (C k) = j)
theorem npb_t {z j k : Nat} {P C : Nat → Nat} : npb z P C j k = true ↔ near z P (C k) = j := decide_eq_true_iff
def nsm (D : Nat) (C M : Nat → Nat) (z : Nat) (P : Nat → Nat) : Nat := tot D (fun k => M k * far (C k) (P (near z P (C k))))
def mv (D : Nat) (C M : Nat → Nat) (z : Nat) (P : Nat → Nat) : Nat → Nat := fun j => if sm D (npb z P C j) M = 0 then P j else mcol D C M (npb z P C j)
def rP (D : Nat) (C M : Nat → Nat) (z : Nat) (P : Nat → Nat) : Nat → Nat → Nat
  | 0 => P
  | n + 1 => mv D C M z (rP D C M z P n)
theorem mv_fix {D z : Nat} {C M P : Nat → Nat} (hz : 0 < z) (h : ∀ j, j < z → mv D C M z P j = P j) : mv D C M z P = P := by
  funext j
  rcases Nat.lt_or_ge j z with c | c
  · exact h j c
  · unfold mv
    rw [if_pos]
    refine sm_none (fun i hi => ?_)
    have := near_lt (z := z) (P := P) (t := C i) hz
    exact decide_eq_false (by omega)
theorem sp_cl_t {z t : Nat} {f : Nat → Int32} {P : Nat → Nat} {post : Int32 → Prop} (hz0 : 0 < z) (hz : z ≤ 64) (hP : chs f z P) (h : post (nI (near z P t))) : wpPa_closest 256 (nI z) f (nI (lev t 0)) (nI (lev t 1)) (nI (lev t 2)) (nI (lev t 3)) post := by
  refine sp_closest (by omega) (by omega) hz0 hz hP (lev_lt _ _) (lev_lt _ _) (lev_lt _ _) (lev_lt _ _) (fun k hk => ?_)
  have e : near z P t = k := near_of hk
  rw [← e]
  exact h
theorem sp_Fi_takeClosest {N D z : Nat} {rd st : Int32} {ta ti ma lv : Nat → Int32} {C M P : Nat → Nat} {post : Int64 → (Nat → Int32) → Prop}
    (hN : N ≤ 576) (hDN : D ≤ N) (hz0 : 0 < z) (hz : z ≤ 64) (ht : ∀ k, k < D → C k < 4294967296 ∧ ti k = nI (C k)) (hma : ∀ k, k < D → ma k = nI (M k)) (hMt : tot D M ≤ 576) (hP : chs lv z P)
    (h : ∀ ta', (∀ k, k < D → ta' k = nI (near z P (C k))) → post (lN (nsm D C M z P)) ta') : wpFi_takeClosest N N N 256 rd ta (nI D) st ti ma (nI z) lv post := by
  unfold wpFi_takeClosest
  intro K hK
  have loop : ∀ (d k : Nat) (ta : Nat → Int32), k + d = D → (∀ j, j < k → ta j = nI (near z P (C j))) → K (lN (nsm k C M z P)) (nI k) ta := by
    intro d
    induction d with
    | zero =>
      intro k ta hk hta
      have : k = D := by omega
      subst this
      apply hK
      unfold vcFi_takeClosest_5
      exact ⟨fun _ => h ta hta, fun q => absurd (nI_le (Nat.le_refl _) (by omega)) q⟩
    | succ d ih =>
      intro k ta hk hta
      have hm : M k ≤ 576 := Nat.le_trans (tot_ge (by omega)) hMt
      obtain ⟨t1, t2⟩ := ht k (by omega)
      have hl := near_lt (z := z) (P := P) (t := C k) hz0
      have hf := far_le (C k) (P (near z P (C k)))
      apply hK
      unfold vcFi_takeClosest_5
      refine ⟨fun q => absurd q (nI_ge (by omega) (by omega)), fun _ => ?_⟩
      simp (disch := omega) only [li_0, li_1, li_2, li_3, li_4, li_8, li_16, li_20, li_24, li_40, li_63, li_64, li_255, li_256, li_576, nI_add, pk_mul, nz_neg, nz_sub, nz_cl, nz_le, nz_lt, nz_eq, nz_in, nz_div, true_and, forall_eq]
      rw [t2]
      refine sp_levelOf t1 (by omega) (sp_levelOf t1 (by omega) (sp_levelOf t1 (by omega) (sp_levelOf t1 (by omega) (sp_cl_t hz0 hz hP ?_))))
      refine sp_packedOf (by omega) hl (by omega) hP (sp_farApart t1 (hP _ hl).1 ?_)
      rw [hma k (by omega)]
      simp (disch := omega) only [li_0, li_1, li_2, li_3, li_4, li_8, li_16, li_20, li_24, li_40, li_63, li_64, li_255, li_256, li_576, nI_add, pk_mul, nz_neg, nz_sub, nz_cl, nz_le, nz_lt, nz_eq, nz_in, nz_div, true_and, forall_eq, lj_0, lj_1, lj_2, nz_l, lN_add, lN_mul, nz_lsub, nz_ldiv, nz_lle, nz_llt, nz_leq, lN_i, lc_ge, lc_le, lc_gt, lc_lt, lc_eq]
      refine ih (k + 1) _ (by omega) (fun j hj => ?_)
      by_cases e : j = k
      · rw [e]; exact pk_us
      · exact (pk_un e).trans (hta j (by omega))
  exact loop D 0 ta (by omega) (fun j hj => absurd hj (Nat.not_lt_zero _))
theorem sp_Fi_moveToMeans {N D z : Nat} {rd st ps : Int32} {ta ti ma lv to mb : Nat → Int32} {C M P : Nat → Nat} {post : Int32 → (Nat → Int32) → Int32 → (Nat → Int32) → (Nat → Int32) → Prop}
    (hN : N ≤ 576) (hDN : D ≤ N) (hz0 : 0 < z) (hz : z ≤ 64) (ht : ∀ k, k < D → C k < 4294967296 ∧ ti k = nI (C k)) (hma : ∀ k, k < D → ma k = nI (M k)) (hMt : tot D M ≤ 576) (hP : chs lv z P) (hta : ∀ k, k < D → ta k = nI (near z P (C k)))
    (h : ∀ mo lv' ps' to' mb', chs lv' z (mv D C M z P) → ((mo = 0 ∧ mv D C M z P = P) ∨ mo = 1) → post mo lv' ps' to' mb') : wpFi_moveToMeans N N N 256 256 64 rd ta (nI D) st ti ma (nI z) lv ps to mb post := by
  unfold wpFi_moveToMeans
  intro K11 K57 h11 h57
  refine sp_Po_start hz (fun to' mb' hp0 => ?_)
  have l57 : ∀ (to mb : Nat → Int32), plS 64 (fun j => tsum D C M (npb z P C j)) (fun j => sm D (npb z P C j) M) to mb → ∀ (d i : Nat) (mo : Int32) (lv : Nat → Int32), i + d = z → chs lv z (fun j => if j < i then mv D C M z P j else P j) → ((mo = 0 ∧ ∀ j, j < i → mv D C M z P j = P j) ∨ mo = 1) → K57 mo (nI i) lv (nI z) to mb := by
    intro to mb hp d
    induction d with
    | zero =>
      intro i mo lv hi hlv hmo
      have : i = z := by omega
      subst this
      apply h57
      unfold vcFi_moveToMeans_57
      refine ⟨fun _ => ⟨?_, h _ _ _ _ _ (chs_cg hlv (fun j hj => by rw [if_pos hj])) ?_⟩, fun q => absurd (nI_le (Nat.le_refl _) (by omega)) q⟩
      · rcases hmo with ⟨e, -⟩ | e <;> rw [e] <;> rfl
      · rcases hmo with ⟨e, e2⟩ | e
        · exact Or.inl ⟨e, mv_fix hz0 e2⟩
        · exact Or.inr e
    | succ d ih =>
      intro i mo lv hi hlv hmo
      have hW : sm D (npb z P C i) M ≤ 576 := Nat.le_trans (sm_all _ _ _) hMt
      have hPi : (fun j => if j < i then mv D C M z P j else P j) i = P i := if_neg (by omega)
      obtain ⟨p1, p2⟩ := hp i (by omega)
      have same : mv D C M z P i = P i → K57 mo (nI (i + 1)) lv (nI z) to mb := by
        intro e
        refine ih (i + 1) mo lv (by omega) (chs_cg hlv (fun j hj => ?_)) ?_
        · by_cases c : j < i
          · rw [if_pos c, if_pos (by omega)]
          · rw [if_neg c]
            by_cases c2 : j = i
            · rw [if_pos (by omega), c2, e]
            · rw [if_neg (by omega)]
        · rcases hmo with ⟨e1, e2⟩ | e1
          · refine Or.inl ⟨e1, fun j hj => ?_⟩
            by_cases c2 : j = i
            · rw [c2]; exact e
            · exact e2 j (by omega)
          · exact Or.inr e1
      apply h57
      unfold vcFi_moveToMeans_57 vcFi_moveToMeans_106
      refine ⟨fun q => absurd q (nI_ge (by omega) (by omega)), fun _ => ?_⟩
      simp (disch := omega) only [li_0, li_1, li_2, li_3, li_4, li_8, li_16, li_20, li_24, li_40, li_63, li_64, li_255, li_256, li_576, nI_add, pk_mul, nz_neg, nz_sub, nz_cl, nz_le, nz_lt, nz_eq, nz_in, nz_div, true_and, forall_eq, p1]
      refine ⟨fun q => same ?_, fun q => ?_⟩
      · show (if sm D (npb z P C i) M = 0 then P i else _) = P i
        rw [if_pos (by omega)]
      · have hmv : mv D C M z P i = mcol D C M (npb z P C i) := by
          show (if sm D (npb z P C i) M = 0 then P i else _) = _
          rw [if_neg (by omega)]
        refine sp_Po_meanOf (z := 64) (by omega) (by omega) hp hW (fun c hc => tsum_le) (sp_packedOf (by omega) (show i < z by omega) (by omega) hlv ?_)
        rw [if_neg (Nat.lt_irrefl i)]
        refine ⟨fun e => same ?_, fun e => ?_⟩
        · rw [hmv]
          have e2 := hlv i (by omega)
          rw [hPi] at e2
          exact (nI_eq32 mcol_lt e2.1).mp e
        · refine sp_Po_meanOf (z := 64) (by omega) (by omega) hp hW (fun c hc => tsum_le) (sp_replace (by omega) (by omega) mcol_lt ?_)
          refine ih (i + 1) _ _ (by omega) (chs_cg (chs_set hlv mcol_lt) (fun j hj => ?_)) (Or.inr rfl)
          by_cases c : j = i
          · rw [if_pos c, if_pos (by omega), c, hmv]
            rfl
          · rw [if_neg c]
            by_cases c2 : j < i
            · rw [if_pos c2, if_pos (by omega)]
            · rw [if_neg c2, if_neg (by omega)]
  have l11 : ∀ (d k : Nat) (to mb : Nat → Int32), k + d = D → plS 64 (fun j => tsum k C M (npb z P C j)) (fun j => sm k (npb z P C j) M) to mb → K11 (nI k) lv (nI z) to mb := by
    intro d
    induction d with
    | zero =>
      intro k to mb hk hp
      have : k = D := by omega
      subst this
      apply h11
      unfold vcFi_moveToMeans_11
      refine ⟨fun _ => ?_, fun q => absurd (nI_le (Nat.le_refl _) (by omega)) q⟩
      exact l57 to mb hp z 0 0 lv (by omega) (chs_cg hP (fun j hj => if_neg (Nat.not_lt_zero _))) (Or.inl ⟨rfl, fun j hj => absurd hj (Nat.not_lt_zero _)⟩)
    | succ d ih =>
      intro k to mb hk hp
      obtain ⟨t1, t2⟩ := ht k (by omega)
      have hl := near_lt (z := z) (P := P) (t := C k) hz0
      apply h11
      unfold vcFi_moveToMeans_11
      refine ⟨fun q => absurd q (nI_ge (by omega) (by omega)), fun _ => ?_⟩
      simp (disch := omega) only [li_0, li_1, li_2, li_3, li_4, li_8, li_16, li_20, li_24, li_40, li_63, li_64, li_255, li_256, li_576, nI_add, pk_mul, nz_neg, nz_sub, nz_cl, nz_le, nz_lt, nz_eq, nz_in, nz_div, true_and, forall_eq, t2, hta k (by omega), hma k (by omega)]
      refine sp_Po_pour (by omega) (show near z P (C k) < 64 by omega) t1 hp (fun to' mb' hp' => ih (k + 1) to' mb' (by omega) (plS_cg hp' (fun j hj => ?_) (fun j hj c hc => ?_)))
      · try dsimp only
        rw [sm_s]
        by_cases e : j = near z P (C k)
        · rw [if_pos e, if_pos (npb_t.mpr e.symm), ← e]
        · rw [if_neg e, if_neg (fun q => e (npb_t.mp q).symm), Nat.add_zero]
      · show sm (k + 1) _ _ = _
        try dsimp only
        rw [sm_s]
        by_cases e : j = near z P (C k)
        · rw [if_pos e, if_pos (npb_t.mpr e.symm), ← e]
          rfl
        · rw [if_neg e, if_neg (fun q => e (npb_t.mp q).symm), Nat.add_zero]
          rfl
  exact l11 D 0 to' mb' (by omega) hp0
theorem sp_Fi_bringToMeans {N D z R : Nat} {rd st ps : Int32} {ta ti ma lv to mb : Nat → Int32} {mi : Nat → Int64} {C M P : Nat → Nat} {post : Int32 → (Nat → Int32) → (Nat → Int64) → (Nat → Int32) → Int32 → (Nat → Int32) → (Nat → Int32) → Prop}
    (hN : N ≤ 576) (hDN : D ≤ N) (hz0 : 0 < z) (hz : z ≤ 64) (hR : R ≤ 20) (ht : ∀ k, k < D → C k < 4294967296 ∧ ti k = nI (C k)) (hma : ∀ k, k < D → ma k = nI (M k)) (hMt : tot D M ≤ 576) (hP : chs lv z P)
    (h : ∀ ta' mi' lv' ps' to' mb', (∀ k, k < D → ta' k = nI (near z (rP D C M z P R) (C k))) → (∀ i, i ≤ R → mi' i = lN (nsm D C M z (rP D C M z P i))) → chs lv' z (rP D C M z P R) → post (nI R) ta' mi' lv' ps' to' mb') :
    wpFi_bringToMeans N 21 N N 256 256 64 rd ta mi (nI D) st ti ma (nI z) lv ps to mb (nI R) post := by
  unfold wpFi_bringToMeans
  intro K hK w hw
  have e : (if (20 : Int32) < nI R then (20 : Int32) else nI R) = nI R := by
    rw [if_neg]
    rw [li_20, nI_ltI (by omega) (by omega)]
    omega
  rw [e] at hw
  subst hw
  have loop : ∀ (d i : Nat) (mo ps : Int32) (ta lv to mb : Nat → Int32) (mi : Nat → Int64), i + d = R → (∀ k, k < D → ta k = nI (near z (rP D C M z P i) (C k))) → (∀ j, j < i → mi j = lN (nsm D C M z (rP D C M z P j))) → chs lv z (rP D C M z P i) → ((mo = 0 ∧ mv D C M z (rP D C M z P i) = rP D C M z P i) ∨ mo = 1) → K (lN (nsm D C M z (rP D C M z P i))) mo (nI i) (nI R) ta mi lv ps to mb := by
    intro d
    induction d with
    | zero =>
      intro i mo ps ta lv to mb mi hi hta hmi hlv hmo
      have : i = R := by omega
      subst this
      apply hK
      unfold vcFi_bringToMeans_25
      refine ⟨fun _ => ⟨vp_in_nI (by omega) (by omega), ?_⟩, fun q => absurd (nI_le (Nat.le_refl _) (by omega)) q⟩
      rw [nz_cl (by omega)]
      refine h _ _ _ _ _ _ hta (fun j hj => ?_) hlv
      by_cases c : j = i
      · rw [c]; exact pk_uLs
      · exact (pk_uLn c).trans (hmi j (by omega))
    | succ d ih =>
      intro i mo ps ta lv to mb mi hi hta hmi hlv hmo
      have hmi' : ∀ j, j < i + 1 → vp_updL mi i (lN (nsm D C M z (rP D C M z P i))) j = lN (nsm D C M z (rP D C M z P j)) := by
        intro j hj
        by_cases c : j = i
        · rw [c]; exact pk_uLs
        · exact (pk_uLn c).trans (hmi j (by omega))
      have still : ∀ ps ta lv to mb, (∀ k, k < D → ta k = nI (near z (rP D C M z P i) (C k))) → chs lv z (rP D C M z P i) → mv D C M z (rP D C M z P i) = rP D C M z P i → K (lN (nsm D C M z (rP D C M z P i))) 0 (nI (i + 1)) (nI R) ta (vp_updL mi i (lN (nsm D C M z (rP D C M z P i)))) lv ps to mb := by
        intro ps ta lv to mb hta hlv hfix
        have e2 : rP D C M z P (i + 1) = rP D C M z P i := hfix
        have := ih (i + 1) 0 ps ta lv to mb _ (by omega) (by rw [e2]; exact hta) hmi' (by rw [e2]; exact hlv) (Or.inl ⟨rfl, by rw [e2]; exact hfix⟩)
        rw [e2] at this
        exact this
      apply hK
      unfold vcFi_bringToMeans_25
      refine ⟨fun q => absurd q (nI_ge (by omega) (by omega)), fun _ => ⟨vp_in_nI (by omega) (by omega), fun q => ?_, fun q => ?_⟩⟩
      · unfold vcFi_bringToMeans_62 vcFi_bringToMeans_63 vcFi_bringToMeans_78
        rw [nz_cl (by omega), nI_1]
        refine ⟨fun _ => ?_, fun q2 => absurd rfl q2⟩
        rcases hmo with ⟨-, hfix⟩ | e1
        · exact still _ _ _ _ _ hta hlv hfix
        · rw [e1] at q
          exact absurd q (by decide)
      · rw [nz_cl (by omega)]
        refine sp_Fi_moveToMeans (C := C) (M := M) hN hDN hz0 hz ht hma hMt hlv hta (fun mo' lv' ps' to' mb' hlv' hmo' => ?_)
        unfold vcFi_bringToMeans_62 vcFi_bringToMeans_63 vcFi_bringToMeans_78
        rw [nI_1]
        refine ⟨fun q2 => ⟨fun _ => ?_, fun q3 => absurd rfl q3⟩, fun q2 => ⟨fun q3 => absurd q3 (by decide), fun _ => ?_⟩⟩
        · rcases hmo' with ⟨-, hfix⟩ | e1
          · exact still _ _ _ _ _ hta (by rw [← hfix]; exact hlv') hfix
          · rw [e1] at q2
            exact absurd q2 (by decide)
        · refine sp_Fi_takeClosest (C := C) (M := M) hN hDN hz0 hz ht hma hMt hlv' (fun ta' hta' => ?_)
          exact ih (i + 1) 1 _ _ _ _ _ _ (by omega) hta' hmi' hlv' (Or.inr rfl)
  refine sp_Fi_takeClosest (C := C) (M := M) hN hDN hz0 hz ht hma hMt hP (fun ta' hta' => ?_)
  exact loop R 0 1 ps ta' lv to mb mi (by omega) hta' (fun j hj => absurd hj (Nat.not_lt_zero _)) hP (Or.inr rfl)
