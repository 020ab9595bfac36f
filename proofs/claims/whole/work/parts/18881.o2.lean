/-! one call on both sides: paint, clear, told -/
theorem i32_nat (x : Int32) : ∃ m, m < 4294967296 ∧ x = nI m := by
  refine ⟨x.toBitVec.toNat, x.toBitVec.isLt, ?_⟩
  apply Int32.toBitVec_inj.1
  show x.toBitVec = BitVec.ofNat 32 x.toBitVec.toNat
  apply BitVec.eq_of_toNat_eq
  rw [BitVec.toNat_ofNat, Nat.mod_eq_of_lt x.toBitVec.isLt]
theorem nI_a255 (n : Nat) : nI n &&& 255 = nI (n % 256) := by
  rw [nI_md n, pk_andN (Nat.mod_lt _ (by decide)) 8 (by decide)]
  congr 1
  omega
theorem ashr {t s : Nat} {y : Int32} (hy : (y.toBitVec.smod 32).toNat = s) (hs : s + 8 ≤ 32) (ht : t < 4294967296) : (nI t >>> y) &&& 255 = nI (t / 2 ^ s % 256) := by
  rw [pk_and _ 8 (by decide)]
  congr 1
  have e : (nI t >>> y).toBitVec = (nI t).toBitVec.sshiftRight s := by
    rw [← hy]
    rfl
  rw [e]
  apply Nat.eq_of_testBit_eq
  intro i
  rw [show (256 : Nat) = 2 ^ 8 from rfl, Nat.testBit_mod_two_pow, Nat.testBit_mod_two_pow, Nat.testBit_div_two_pow]
  by_cases c : i < 8
  · have e2 : ((nI t).toBitVec.sshiftRight s).toNat.testBit i = ((nI t).toBitVec.sshiftRight s).getLsbD i := rfl
    have e3 : (nI t).toBitVec.getLsbD (s + i) = t.testBit (s + i) := by
      show (BitVec.ofNat 32 t).getLsbD (s + i) = _
      rw [BitVec.getLsbD_ofNat]
      simp [show s + i < 32 by omega]
    rw [e2, BitVec.getLsbD_sshiftRight, if_pos (by omega), e3]
    simp [c, show i < 32 by omega, Nat.add_comm]
  · simp [c]
theorem alev {t c : Nat} (ht : t < 4294967296) (hc : c < 4) : (nI t >>> ((24 - 8 * nI c) &&& 31)) &&& 255 = nI (lev t c) := by
  rcases co4 hc with rfl | rfl | rfl | rfl
  · rw [ashr (s := 24) (by decide) (by omega) ht]; rfl
  · rw [ashr (s := 16) (by decide) (by omega) ht]; rfl
  · rw [ashr (s := 8) (by decide) (by omega) ht]; rfl
  · rw [ashr (s := 0) (by decide) (by omega) ht]; rfl
def stc (t m k : Nat) : Nat := pk4 ((lev t 0 + m * k) % 256) ((lev t 1 + m * k) % 256) ((lev t 2 + m * k) % 256) ((lev t 3 + m * k) % 256)
theorem m256 (n : Nat) : n % 256 < 256 := Nat.mod_lt _ (by decide)
theorem stc_lt (t m k : Nat) : stc t m k < 4294967296 := pk4_lt (m256 _) (m256 _) (m256 _) (m256 _)
theorem stc_lev {t m k c : Nat} (hc : c < 4) : lev (stc t m k) c = (lev t c + m * k) % 256 := by
  have := lev_pk (m256 (lev t 0 + m * k)) (m256 (lev t 1 + m * k)) (m256 (lev t 2 + m * k)) (m256 (lev t 3 + m * k))
  rcases co4 hc with rfl | rfl | rfl | rfl
  · exact this.1
  · exact this.2.1
  · exact this.2.2.1
  · exact this.2.2.2
theorem stc_0 {t m : Nat} (ht : t < 4294967296) : stc t m 0 = t := by
  refine lev_inj (stc_lt _ _ _) ht (fun c hc => ?_)
  rw [stc_lev hc, Nat.mul_zero, Nat.add_zero]
  exact Nat.mod_eq_of_lt (lev_lt t c)
theorem sp_stepped {t m k : Nat} {post : Int32 → Prop} (h : post (nI (stc t m (k + 1)))) : wpCL_stepped (nI (stc t m k)) (nI m) post := by
  unfold wpCL_stepped
  rw [li_0, li_1, li_2, li_3]
  refine sp_levelOf (stc_lt _ _ _) (by omega) (sp_levelOf (stc_lt _ _ _) (by omega) (sp_levelOf (stc_lt _ _ _) (by omega) (sp_levelOf (stc_lt _ _ _) (by omega) ?_)))
  rw [stc_lev (by omega), stc_lev (by omega), stc_lev (by omega), stc_lev (by omega), nI_add, nI_add, nI_add, nI_add, nI_a255, nI_a255, nI_a255, nI_a255]
  refine sp_packed (m256 _) (m256 _) (m256 _) (m256 _) ?_
  have e : ∀ a, ((a + m * k) % 256 + m) % 256 = (a + m * (k + 1)) % 256 := by
    intro a
    rw [Nat.mul_succ]
    omega
  rw [e, e, e, e]
  exact h
def pnt (S : Nat → Nat) (f t m k : Nat) : Nat → Nat := fun q => if f ≤ q ∧ q < f + k then stc t m (q - f) else S q
theorem pnt_s {S : Nat → Nat} {f t m k q : Nat} : pnt S f t m (k + 1) q = if q = f + k then stc t m k else pnt S f t m k q := by
  unfold pnt
  by_cases c : q = f + k
  · rw [if_pos c, if_pos (by omega), c, Nat.add_sub_cancel_left]
  · rw [if_neg c]
    by_cases c2 : f ≤ q ∧ q < f + k
    · rw [if_pos c2, if_pos (by omega)]
    · rw [if_neg c2, if_neg (by omega)]
theorem op_paint {W H : Nat} {sa he sti sma sra oti oth plv fta msa mig mgi mpa mha : Nat → Int32} {ssz sst osz psz frd re ms mr : Int32} {fmi mrs : Nat → Int64} {out : Nat → Int64} {x y many col step a1 a4 a5 a6 : Int32} {Ψ : Int32 → (Nat → Int32) → Int32 → Int32 → (Nat → Int64) → Prop} (hW : W ≤ 24) (hH : H ≤ 24) (hA : alk W H sa he ssz sst sti sma sra osz oti oth psz plv frd fta fmi re ms mr msa mig mgi mpa mha mrs)
    (h : ∀ e sa' st' ps' out', (∀ Φ : Int32 → Int32 → Int32 → (Nat → Int32) → Prop, (∀ r2 re' msa', alk W H sa' he ssz st' sti sma sra osz oti oth ps' plv frd fta fmi re' ms mr msa' mig mgi mpa mha mrs → (e = 0 → out' 0 = r2.toInt64) → Φ r2 e re' msa') → wpMd_paint 2304 a1 (nI W) (nI H) a4 a5 a6 re ms mr msa x y many col step Φ) → Ψ e sa' st' ps' out') :
    wpLw_paint (W * H) 1 (nI W) (nI H) sa ssz sst psz out x y many col step Ψ := by
  have hN := wh_le hW hH
  obtain ⟨S, gv, Q, k1, k2, k3, k4, k5, k6, k7⟩ := id hA
  unfold wpLw_paint
  by_cases hp : plc W H x y
  · rcases i32_or many with hm | ⟨nn, hnn, rfl⟩
    · right; right
      refine ⟨?_, h _ _ _ _ _ (fun Φ hΦ => ?_)⟩
      · unfold wxCL_paint
        exact Or.inl (sp_cp hW hH hp ⟨fun q => absurd hm (Int32.not_lt.mpr q), fun _ => rfl⟩)
      · unfold wpMd_paint
        intro K82 K92 h82 h92
        refine sp_ip hW hH (fun _ => ⟨fun _ => ⟨fun q => absurd hm (Int32.not_lt.mpr q), fun _ => ?_⟩, fun q => absurd q n10⟩) (fun q => absurd hp q)
        unfold vcMd_paint_23
        exact ⟨fun q => absurd q (by decide), fun _ => hΦ _ _ _ hA (fun q => absurd q (by decide))⟩
    · left
      obtain ⟨xa, yb, p1, p2, rfl, rfl⟩ := id hp
      have hpl := plc_at p1 p2
      obtain ⟨f, ep⟩ : ∃ p, p = yb * W + xa := ⟨_, rfl⟩
      rw [← ep] at hpl
      obtain ⟨N, eN⟩ : ∃ N, N = W * H := ⟨_, rfl⟩
      rw [← eN] at hpl hN
      obtain ⟨t, ht, rfl⟩ := i32_nat col
      obtain ⟨m, hm, rfl⟩ := i32_nat step
      obtain ⟨n, en⟩ : ∃ n, n = if N - f < nn then N - f else nn := ⟨_, rfl⟩
      have hn : n ≤ N - f ∧ n ≤ nn := by
        rw [en]
        split <;> omega
      have h0 : ¬ nI nn < 0 := nI_n0 hnn
      have h0' : (0 : Int32) ≤ nI nn := Int32.not_lt.mp h0
      have fin : ∀ sa', (∀ q, q < N → sa' q = nI (pnt S f t m n q)) → Ψ 0 sa' 1 0 (vp_updL out 0 (nI n).toInt64) := by
        intro sa' hsa
        refine h _ _ _ _ _ (fun Φ hΦ => ?_)
        unfold wpMd_paint
        intro K82 K92 h82 h92
        refine sp_ip hW hH (fun _ => ⟨fun _ => ⟨fun _ => ?_, fun q => absurd h0' q⟩, fun q => absurd q n10⟩) (fun q => absurd hp q)
        have l82 : ∀ (d k : Nat) (msa : Nat → Int32), k + d = n → chs msa N (pnt S f t m k) → K82 (nI f) (nI n) (nI k) 0 re msa := by
          intro d
          induction d with
          | zero =>
            intro k msa hk hms
            have : k = n := by omega
            subst this
            apply h82
            unfold vcMd_paint_82
            refine ⟨fun _ => hΦ _ _ _ ⟨pnt S f t m k, gv, Q, fun q hq => ⟨?_, hsa q (by omega)⟩, by rw [← eN]; exact hms, k3, k4, k5, fun q => absurd q n10, Or.inl ⟨rfl, rfl⟩⟩ (fun _ => pk_uLs), fun q => absurd (nI_le (Nat.le_refl _) (by omega)) q⟩
            exact (hms q (by omega)).1
          | succ d ih =>
            intro k msa hk hms
            have step : ∀ (c : Nat) (u : Nat → Int32), c < 4 → K92 (nI f) (nI n) (nI k) (nI (c + 1)) 0 re (upd u (4 * (f + k) + c) (nI (lev (stc t m k) c))) → K92 (nI f) (nI n) (nI k) (nI c) 0 re u := by
              intro c u hc hk2
              apply h92
              unfold vcMd_paint_92
              refine ⟨fun q => absurd q (by rw [li_4]; exact nI_ge (by omega) (by omega)), fun _ => ?_⟩
              have e : (nI (lev t c) + nI m * nI k) &&& 255 = nI ((lev t c + m * k) % 256) := by rw [pk_mul, nI_add, nI_a255]
              rw [alev ht hc, e]
              rw [stc_lev hc] at hk2
              simp (disch := omega) only [li_0, li_1, li_2, li_3, li_4, li_8, li_16, li_20, li_24, li_40, li_63, li_64, li_255, li_256, li_576, nI_add, pk_mul, nz_neg, nz_sub, nz_cl, nz_le, nz_lt, nz_eq, nz_in, nz_div, true_and, forall_eq]
              exact hk2
            apply h82
            unfold vcMd_paint_82
            refine ⟨fun q => absurd q (nI_ge (by omega) (by omega)), fun _ => ?_⟩
            refine step 0 _ (by omega) (step 1 _ (by omega) (step 2 _ (by omega) (step 3 _ (by omega) ?_)))
            rw [setc_of]
            apply h92
            unfold vcMd_paint_92
            refine ⟨fun _ => ?_, fun q => absurd (by decide) q⟩
            rw [nI_1]
            exact ih (k + 1) _ (by omega) (chs_cg (chs_set hms (stc_lt _ _ _)) (fun j hj => pnt_s))
        have start : K82 (nI f) (nI n) 0 0 re msa := by
          refine l82 n 0 msa (by omega) (chs_cg (by rw [eN]; exact k2) (fun j hj => ?_))
          unfold pnt
          rw [if_neg (by omega)]
        unfold vcMd_paint_23 vcMd_paint_77
        refine ⟨fun _ => ?_, fun q => absurd (by decide) q⟩
        simp (disch := omega) only [li_0, li_1, li_2, li_3, li_4, li_8, li_16, li_20, li_24, li_40, li_63, li_64, li_255, li_256, li_576, nI_add, pk_mul, nz_neg, nz_sub, nz_cl, nz_le, nz_lt, nz_eq, nz_in, nz_div, true_and, forall_eq, Nat.mul_comm W yb, ← ep, ← eN]
        refine ⟨fun q => ?_, fun q => ?_⟩
        · rw [show n = nn by rw [en, if_neg (by omega)]] at start
          exact start
        · rw [show n = N - f by rw [en, if_pos (by omega)]] at start
          exact start
      unfold wpCL_paint
      intro K50 h50
      refine sp_cp hW hH hp ⟨fun _ => ?_, fun q => absurd h0' q⟩
      unfold wpCL_placeOf
      have loop : ∀ (d k : Nat) (sa : Nat → Int32), k + d = n → (∀ q, q < N → sa q = nI (pnt S f t m k q)) → K50 (nI f) (nI n) (nI (stc t m k)) (nI (f + k)) sa sst psz := by
        intro d
        induction d with
        | zero =>
          intro k sa hk hsa
          have : k = n := by omega
          subst this
          apply h50
          unfold vcCL_paint_50 wpCL_forgetMade wpPa_drop
          rw [nI_add]
          exact ⟨fun _ => ⟨vp01, fin sa hsa⟩, fun q => absurd (nI_le (Nat.le_refl _) (by omega)) q⟩
        | succ d ih =>
          intro k sa hk hsa
          apply h50
          unfold vcCL_paint_50
          rw [nI_add]
          refine ⟨fun q => absurd q (nI_ge (by omega) (by omega)), fun _ => ⟨vp_in_nI (by omega) (by omega), sp_stepped ?_⟩⟩
          rw [nz_cl (by omega), nI_1]
          refine ih (k + 1) _ (by omega) (fun q hq => ?_)
          rw [pnt_s]
          by_cases c : q = f + k
          · rw [if_pos c, c, pk_us]
          · rw [if_neg c, pk_un c]; exact hsa q hq
      have start := loop n 0 sa (by omega) (fun q hq => by
        unfold pnt
        rw [if_neg (by omega)]
        exact (k1 q (by omega)).2)
      rw [stc_0 ht, Nat.add_zero] at start
      rw [pk_mul, nI_add, ← ep, ← eN]
      intro v hv
      rw [nz_sub (by omega)] at hv
      have : v = nI n := by
        rw [hv, en]
        by_cases c : N - f < nn
        · rw [if_pos c, if_pos ((nI_ltI (by omega) (by omega)).mpr c)]
        · rw [if_neg c, if_neg (fun q => c ((nI_ltI (by omega) (by omega)).mp q))]
      rw [this]
      exact start
  · right; left
    refine ⟨?_, h _ _ _ _ _ (fun Φ hΦ => ?_)⟩
    · unfold wxCL_paint
      exact Or.inr (sp_cpx hW hH hp)
    · unfold wpMd_paint
      intro K82 K92 h82 h92
      refine sp_ip hW hH (fun q => absurd q hp) (fun _ => ⟨fun q => absurd rfl q, fun _ => ?_⟩)
      unfold vcMd_paint_23
      exact ⟨fun q => absurd q (by decide), fun _ => hΦ _ _ _ hA (fun q => absurd q n10)⟩
theorem sp_Of_withdraw {k : Nat} {os : Int32} {ot oh : Nat → Int32} {g : Nat → Bool} {Q : Nat → Nat} {post : Int32 → (Nat → Int32) → Prop} (hk : k < 64) (ho : ofOK g Q ot oh) (hs : os = nI (cnt 64 g)) (h : ∀ os' oh', ofOK (gset k false g) Q ot oh' → os' = nI (cnt 64 (gset k false g)) → post os' oh') :
    wpOf_withdraw 64 os oh (nI k) post := by
  obtain ⟨o1, o2⟩ := ho k hk
  have hc := cnt_set (n := 64) (k := k) (g := g) (b := false) hk
  rw [if_neg (show ¬ false = true by decide), Nat.add_zero] at hc
  have hcl := cnt_le 64 g
  unfold wpOf_withdraw vcOf_withdraw_26
  rw [nz_cl (by omega), o1, vnb0]
  refine ⟨vp_in_nI (by omega) (by omega), fun q => ?_, fun q => ⟨vp_in_nI (by omega) (by omega), fun w hw => ?_⟩⟩
  · have e : ¬ g k = true := fun z => by rw [if_pos z] at q; exact n10 q
    rw [if_neg e, Nat.add_zero] at hc
    refine h _ _ (fun j hj => ?_) (by rw [hc, hs])
    by_cases c : j = k
    · rw [c, gset_s, o1, if_neg e, if_neg (by decide)]
      exact ⟨rfl, fun q => absurd q (by decide)⟩
    · rw [gset_n c]; exact ho j hj
  · have e : g k = true := Classical.byContradiction (fun z => by rw [if_neg z] at q; exact q rfl)
    rw [if_pos e] at hc
    refine h _ _ (fun j hj => ?_) (by rw [hw, hs, li_1, nz_sub (by omega)]; congr 1; omega)
    by_cases c : j = k
    · rw [c, gset_s, pk_us, if_neg (by decide)]
      exact ⟨rfl, fun q => absurd q (by decide)⟩
    · rw [gset_n c, pk_un c]; exact ho j hj
theorem sp_Of_withdrawAll {os : Int32} {ot oh : Nat → Int32} {g : Nat → Bool} {Q : Nat → Nat} {post : Int32 → (Nat → Int32) → Prop} (ho : ofOK g Q ot oh) (hs : os = nI (cnt 64 g)) (h : ∀ oh', ofOK (fun _ => false) Q ot oh' → post (nI (cnt 64 (fun _ => false))) oh') :
    wpOf_withdrawAll 64 os oh post := by
  unfold wpOf_withdrawAll
  intro K hK
  have loop : ∀ (d k : Nat) (os : Int32) (oh : Nat → Int32) (g : Nat → Bool), k + d = 64 → ofOK g Q ot oh → os = nI (cnt 64 g) → (∀ j, j < k → g j = false) → K (nI k) os oh := by
    intro d
    induction d with
    | zero =>
      intro k os oh g hk ho hs hg
      have : k = 64 := by omega
      subst this
      apply hK
      unfold vcOf_withdrawAll_2
      refine ⟨fun _ => ?_, fun q => absurd (by decide) q⟩
      rw [hs, cnt_congr (g := fun _ => false) (fun i hi => hg i hi)]
      exact h _ (fun j hj => by have := ho j hj; rw [hg j hj] at this; exact ⟨this.1, fun q => Bool.noConfusion q⟩)
    | succ d ih =>
      intro k os oh g hk ho hs hg
      apply hK
      unfold vcOf_withdrawAll_2
      refine ⟨fun q => absurd q (by rw [li_64]; exact nI_ge (by omega) (by omega)), fun _ => ?_⟩
      refine sp_Of_withdraw (by omega) ho hs (fun os' oh' ho' hs' => ?_)
      rw [nI_1]
      refine ih (k + 1) os' oh' _ (by omega) ho' hs' (fun j hj => ?_)
      by_cases c : j = k
      · rw [c, gset_s]
      · rw [gset_n c]; exact hg j (by omega)
  exact loop 64 0 os oh g (by omega) ho hs (fun j hj => absurd hj (Nat.not_lt_zero _))
theorem lev_z (c : Nat) : lev 0 c = 0 := by
  unfold lev
  rw [Nat.zero_div]
theorem op_clear {W H : Nat} {sa he sti sma sra oti oth plv fta msa mig mgi mpa mha : Nat → Int32} {ssz sst osz psz frd re ms mr : Int32} {fmi mrs : Nat → Int64} {a1 a4 a5 a6 : Int32} {Ψ : (Nat → Int32) → Int32 → Int32 → (Nat → Int32) → Int32 → Prop} (hW : W ≤ 24) (hH : H ≤ 24) (hA : alk W H sa he ssz sst sti sma sra osz oti oth psz plv frd fta fmi re ms mr msa mig mgi mpa mha mrs)
    (h : ∀ sa' st' os' oh' ps', (∀ Φ : Int32 → Int32 → (Nat → Int32) → (Nat → Int32) → Prop, (∀ th' re' msa' ig', alk W H sa' he ssz st' sti sma sra os' oti oh' ps' plv frd fta fmi re' ms mr msa' ig' mgi mpa mha mrs → Φ th' re' msa' ig') → wpMd_clear 2304 64 a1 (nI W) (nI H) a4 a5 a6 re ms mr msa mig Φ) → Ψ sa' st' os' oh' ps') :
    wpCL_clear (W * H) 64 (nI W) (nI H) sa ssz sst osz oth psz Ψ := by
  have hN := wh_le hW hH
  obtain ⟨S, gv, Q, k1, k2, k3, k4, k5, k6, k7⟩ := id hA
  unfold wpCL_clear
  refine sp_Ar_fill (by omega) (fun sa' hsa => sp_Of_withdrawAll k3 k5 (fun oh' ho => ?_))
  unfold wpCL_forgetMade wpPa_drop
  refine h _ _ _ _ _ (fun Φ hΦ => ?_)
  unfold wpMd_clear
  intro K7 K37 h7 h37
  have e4 : 4 * W * H = 4 * (W * H) := Nat.mul_assoc _ _ _
  have l37 : ∀ (msa : Nat → Int32), (∀ q, q < 4 * (W * H) → msa q = 0) → ∀ (d k : Nat) (ig : Nat → Int32), k + d = 64 → (∀ j, j < k → ig j = 0) → K37 (nI k) 0 re msa ig := by
    intro msa hms d
    induction d with
    | zero =>
      intro k ig hk hig
      have : k = 64 := by omega
      subst this
      apply h37
      unfold vcMd_clear_37
      refine ⟨fun _ => hΦ _ _ _ _ ⟨fun _ => 0, fun _ => false, Q, fun q hq => ⟨Nat.succ_pos 4294967295, hsa q hq⟩, fun q hq => ⟨Nat.succ_pos 4294967295, fun c hc => ?_⟩, ho, fun j hj => ⟨hig j hj, fun q => Bool.noConfusion q⟩, rfl, fun q => absurd q n10, Or.inl ⟨rfl, rfl⟩⟩, fun q => absurd (by decide) q⟩
      rw [hms _ (by omega), lev_z]
      rfl
    | succ d ih =>
      intro k ig hk hig
      apply h37
      unfold vcMd_clear_37
      refine ⟨fun q => absurd q (by rw [li_64]; exact nI_ge (by omega) (by omega)), fun _ => ⟨vp_in_nI (by omega) (by omega), ?_⟩⟩
      rw [nz_cl (by omega), vnb0, nI_1]
      refine ih (k + 1) _ (by omega) (fun j hj => ?_)
      by_cases c : j = k
      · rw [c]; exact pk_us
      · rw [pk_un c]; exact hig j (by omega)
  have l7 : ∀ (d k : Nat) (msa : Nat → Int32), k + d = 4 * (W * H) → (∀ j, j < k → msa j = 0) → K7 (nI k) 0 re msa mig := by
    intro d
    induction d with
    | zero =>
      intro k msa hk hms
      have : k = 4 * (W * H) := by omega
      subst this
      apply h7
      unfold vcMd_clear_7
      rw [li_4, pk_mul, pk_mul, e4]
      exact ⟨fun _ => l37 msa hms 64 0 mig (by omega) (fun j hj => absurd hj (Nat.not_lt_zero _)), fun q => absurd (nI_le (Nat.le_refl _) (by omega)) q⟩
    | succ d ih =>
      intro k msa hk hms
      apply h7
      unfold vcMd_clear_7
      rw [li_4, pk_mul, pk_mul, e4]
      refine ⟨fun q => absurd q (nI_ge (by omega) (by omega)), fun _ => ⟨vp_in_nI (by omega) (by omega), ?_⟩⟩
      rw [nz_cl (by omega), nI_1]
      refine ih (k + 1) _ (by omega) (fun j hj => ?_)
      by_cases c : j = k
      · rw [c]; exact pk_us
      · rw [pk_un c]; exact hms j (by omega)
  exact l7 (4 * (W * H)) 0 msa (by omega) (fun j hj => absurd hj (Nat.not_lt_zero _))
theorem op_told {W H : Nat} {sa he sti sma sra oti oth plv fta msa mig mgi mpa mha : Nat → Int32} {ssz sst osz psz frd re ms mr : Int32} {fmi mrs : Nat → Int64} {ske : Nat → Int64} {co ma : Nat → Int32} {x a1 a4 a5 a6 : Int32} {Ψ : Int32 → Int32 → Int32 → (Nat → Int32) → (Nat → Int32) → (Nat → Int32) → (Nat → Int64) → Prop} (hW : W ≤ 24) (hH : H ≤ 24) (hA : alk W H sa he ssz sst sti sma sra osz oti oth psz plv frd fta fmi re ms mr msa mig mgi mpa mha mrs)
    (h : ∀ r sz' st' ti' ma' ra' ke', (∀ Φ : Int32 → Int32 → Int32 → (Nat → Int32) → (Nat → Int32) → Prop, (∀ th' d' co' mm', alk W H sa he sz' st' ti' ma' ra' osz oti oth psz plv frd fta fmi re ms mr msa mig mgi mpa mha mrs → Φ r th' d' co' mm') → wpMd_told 2304 64 2304 576 a1 (nI W) (nI H) a4 a5 a6 re ms mr msa mig co ma x Φ) → Ψ r sz' st' ti' ma' ra' ke') :
    wpCL_told (W * H) (W * H) (W * H) (W * H) (W * H) (nI W) (nI H) sa ssz sst sti sma sra ske osz psz x Ψ := by
  have hN := wh_le hW hH
  obtain ⟨S, gv, Q, k1, k2, k3, k4, k5, k6, k7⟩ := id hA
  unfold wpCL_told
  refine ⟨fun q => ?_, fun q0 => ⟨fun q => ?_, fun q1 => ⟨fun q => ?_, fun q2 => ⟨fun q => ?_, fun q3 => ⟨fun q => ?_, fun q4 => ?_⟩⟩⟩⟩⟩
  · refine h _ _ _ _ _ _ _ (fun Φ hΦ => ?_)
    unfold wpMd_told vcMd_told_14 vcMd_told_85
    subst q
    exact ⟨fun _ => ⟨fun q => absurd rfl q, fun _ => hΦ _ _ _ _ hA⟩, fun q => absurd q (by decide)⟩
  · refine h _ _ _ _ _ _ _ (fun Φ hΦ => ?_)
    unfold wpMd_told vcMd_told_14 vcMd_told_85
    subst q
    exact ⟨fun _ => ⟨fun _ => ⟨fun q => absurd rfl q, fun _ => hΦ _ _ _ _ hA⟩, fun q => absurd q (by decide)⟩, fun q => absurd q (by decide)⟩
  · refine sp_gather hN k1 k6 (fun sz' ti' ma' ra' ke' hg => ?_)
    refine h _ _ _ _ _ _ _ (fun Φ hΦ => ?_)
    unfold wpMd_told vcMd_told_14 vcMd_told_85
    subst q
    refine ⟨fun q => absurd rfl q, fun _ => ?_⟩
    refine sp_Md_findDifferent (by omega) (by omega) (by omega) rfl hN (by omega) (by omega) (by omega) k2 (fun D C M cs' ms' hsh hc hm => ?_)
    refine ⟨fun _ => ⟨fun _ => ⟨fun q => absurd rfl q, fun _ => ?_⟩, fun q => absurd q (by decide)⟩, fun q => absurd q (by decide)⟩
    obtain ⟨D', C', M', g1, g2, g3⟩ := id hg
    obtain ⟨e1, -⟩ := shOK_one hsh g1
    have e2 : nI D = sz' := by rw [g2, e1]
    rw [e2]
    refine hΦ _ _ _ _ ⟨S, gv, Q, k1, k2, k3, k4, k5, fun _ => hg, ?_⟩
    rcases k7 with c | ⟨-, c⟩
    · exact Or.inl c
    · exact Or.inr ⟨rfl, c⟩
  · refine h _ _ _ _ _ _ _ (fun Φ hΦ => ?_)
    unfold wpMd_told vcMd_told_14 vcMd_told_85
    subst q
    refine ⟨fun _ => ⟨fun _ => ⟨fun _ => ⟨fun _ => ⟨fun q => absurd rfl q, fun _ => ⟨fun q5 => ?_, fun q5 => ?_⟩⟩, fun q => absurd q (by decide)⟩, fun q => absurd q (by decide)⟩, fun q => absurd q (by decide)⟩, fun q => absurd q (by decide)⟩
    · rcases id k7 with ⟨c1, c2⟩ | ⟨-, z, R, D, P, C, M, c1, c2, c3, c4, c5, c6, c7⟩
      · have := hΦ 0 a4 co ma hA
        rw [c1] at this
        exact this
      · rw [c5] at q5
        exact absurd q5 n10
    · rcases id k7 with ⟨c1, c2⟩ | ⟨-, z, R, D, P, C, M, c1, c2, c3, c4, c5, c6, c7⟩
      · exact absurd c2 q5
      · have := hΦ 0 a4 co ma hA
        rw [c4, ← c6] at this
        exact this
  · refine h _ _ _ _ _ _ _ (fun Φ hΦ => ?_)
    unfold wpMd_told vcMd_told_14 vcMd_told_85
    subst q
    refine ⟨fun _ => ⟨fun _ => ⟨fun _ => ⟨fun _ => ⟨fun _ => ⟨fun q => absurd rfl q, fun _ => ?_⟩, fun q => absurd q (by decide)⟩, fun q => absurd q (by decide)⟩, fun q => absurd q (by decide)⟩, fun q => absurd q (by decide)⟩, fun q => absurd q (by decide)⟩
    refine sp_Md_givenCount (fun k hk => (k4 k hk).1) ?_
    rw [← k5]
    exact hΦ _ _ _ _ hA
  · refine h _ _ _ _ _ _ _ (fun Φ hΦ => ?_)
    unfold wpMd_told vcMd_told_14 vcMd_told_85
    exact ⟨fun _ => ⟨fun _ => ⟨fun _ => ⟨fun _ => ⟨fun _ => ⟨fun _ => hΦ _ _ _ _ hA, fun q => absurd q q4⟩, fun q => absurd q q3⟩, fun q => absurd q q2⟩, fun q => absurd q q1⟩, fun q => absurd q q0⟩, fun q => absurd q q2⟩
