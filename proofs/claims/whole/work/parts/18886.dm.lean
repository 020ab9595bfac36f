/-! dithering: the model -/
theorem sp_br {w : Int32} {post : Int32 → Prop} (h : post (nI (bri w))) : wpMd_brought w post := by
  unfold wpMd_brought vcMd_brought_22
  rcases i32_or w with c | ⟨n, n1, rfl⟩
  · have e : bri w = 0 := by unfold bri; rw [if_pos c]
    rw [e] at h
    exact ⟨fun q => absurd c (Int32.not_lt.mpr q), fun _ => h⟩
  · rw [bri_n n1] at h
    refine ⟨fun _ => ⟨fun q => ?_, fun q => ?_⟩, fun q => absurd (Int32.not_lt.mp (nI_n0 n1)) q⟩
    · rw [li_255, nI_leI (by omega) (by omega)] at q
      rw [if_neg (by omega)] at h
      exact h
    · rw [li_255, nI_leI (by omega) (by omega)] at q
      rw [if_pos (by omega)] at h
      exact h
theorem sp_Md_missed {W H z y x pn : Nat} {nx : Bool} {dx a1 a4 a5 a6 a7 a8 : Int32} {msa pa ha bf ca w : Nat → Int32} {S P : Nat → Nat} {post : (Nat → Int32) → (Nat → Int32) → (Nat → Int32) → Prop}
    (hW : W ≤ 24) (hH : H ≤ 24) (hx : x < W) (hy : y < H) (hz0 : 0 < z) (hz : z ≤ 64) (hS : chs msa (W * H) S) (hP : chs pa z P) (hw : ∀ c, c < 4 → w c = nI (lev (S (y * W + x)) c) + ca (4 * (y * W + x) + c))
    (hdx : (dx = 1 ∧ pn = y * W + x + 1 ∧ (nx = true ↔ x + 1 < W)) ∨ (dx = -1 ∧ (nx = true ↔ 0 < x) ∧ (0 < x → pn + 1 = y * W + x)))
    (h : ∀ bf' ca', (∀ q, q < W * H → ∀ c, c < 4 → ca' (4 * q + c) = ca (4 * q + c) + (if nx = true ∧ q = pn then mis z P w c / 2 else 0) + (if y + 1 < H ∧ q = y * W + x + W then mis z P w c - mis z P w c / 2 else 0)) → post (upd ha (y * W + x) (nI (chk z P w))) bf' ca') :
    wpMd_missed 2304 256 576 256 2304 a1 (nI W) (nI H) a4 a5 a6 a7 (nI z) a8 msa pa ha bf ca (nI x) (nI y) dx post := by
  have hN := wh_le hW hH
  have hpl := plc_at hx hy
  have n2 : ¬ (2 : Int32) = 0 := by decide
  have hk : chk z P w < z := near_lt hz0
  unfold wpMd_missed
  intro K13 K102 h13 h102 v hv
  rw [pk_mul, nI_add, Nat.mul_comm W y] at hv
  subst hv
  have hb : y + 1 < H → y * W + x + W < W * H := by
    intro q
    have := plc_at hx q
    rw [Nat.succ_mul] at this
    omega
  obtain ⟨p, ep⟩ : ∃ p, p = y * W + x := ⟨_, rfl⟩
  rw [← ep] at hw hdx h hpl hb ⊢
  have hxp : x ≤ p := by omega
  have hpn : nx = true → nI p + dx = nI pn ∧ pn < W * H ∧ pn ≠ p ∧ pn ≠ p + W := by
    intro q
    rcases hdx with ⟨e1, e2, e3⟩ | ⟨e1, e3, e2⟩
    · have := e3.mp q
      have h2 := plc_at (show x + 1 < W by omega) hy
      rw [e1, e2, nI_1]
      exact ⟨rfl, by omega, by omega, by omega⟩
    · have := e3.mp q
      have := e2 this
      rw [e1, li_1, nz_neg, nz_sub (by omega)]
      exact ⟨by congr 1; omega, by omega, by omega, by omega⟩
  have f1 : nI x + dx < 0 → nx = false := by
    intro q
    rcases hdx with ⟨e1, e2, e3⟩ | ⟨e1, e3, e2⟩
    · rw [e1, nI_1] at q
      exact absurd q (nI_n0 (by omega))
    · rcases Nat.eq_zero_or_pos x with c | c
      · exact Bool.eq_false_iff.mpr (fun z => absurd (e3.mp z) (by omega))
      · rw [e1, li_1, nz_neg, nz_sub (by omega)] at q
        exact absurd q (nI_n0 (by omega))
  have f2 : ¬ nI x + dx < 0 → nI W ≤ nI x + dx → nx = false := by
    intro q q2
    rcases hdx with ⟨e1, e2, e3⟩ | ⟨e1, e3, e2⟩
    · rw [e1, nI_1, nI_leI (by omega) (by omega)] at q2
      exact Bool.eq_false_iff.mpr (fun z => absurd (e3.mp z) (by omega))
    · rcases Nat.eq_zero_or_pos x with c | c
      · rw [c, e1] at q
        exact absurd (by decide) q
      · rw [e1, li_1, nz_neg, nz_sub (by omega), nI_leI (by omega) (by omega)] at q2
        omega
  have f3 : ¬ nI x + dx < 0 → ¬ nI W ≤ nI x + dx → nx = true := by
    intro q q2
    rcases hdx with ⟨e1, e2, e3⟩ | ⟨e1, e3, e2⟩
    · rw [e1, nI_1, nI_leI (by omega) (by omega)] at q2
      exact e3.mpr (by omega)
    · rcases Nat.eq_zero_or_pos x with c | c
      · rw [c, e1] at q
        exact absurd (by decide) q
      · exact e3.mpr c
  have l102 : ∀ (bf : Nat → Int32) (s : Int32), (s = if nx = true then 1 else 0) → ∀ (d c : Nat) (ca' : Nat → Int32), c + d = 4 → (∀ q, q < W * H → ∀ j, j < 4 → ca' (4 * q + j) = ca (4 * q + j) + (if (nx = true ∧ q = pn) ∧ j < c then mis z P w j / 2 else 0) + (if (y + 1 < H ∧ q = p + W) ∧ j < c then mis z P w j - mis z P w j / 2 else 0)) → K102 (nI p) s (nI c) (upd ha p (nI (chk z P w))) bf ca' := by
    intro bf s hs d
    induction d with
    | zero =>
      intro c ca' hc hca
      have : c = 4 := by omega
      subst this
      apply h102
      unfold vcMd_missed_102
      refine ⟨fun _ => h _ _ (fun q hq j hj => ?_), fun q => absurd (by decide) q⟩
      rw [hca q hq j hj]
      congr 1
      · congr 1
        by_cases e : nx = true ∧ q = pn
        · rw [if_pos ⟨e, hj⟩, if_pos e]
        · rw [if_neg (fun z => e z.1), if_neg e]
      · by_cases e : y + 1 < H ∧ q = p + W
        · rw [if_pos ⟨e, hj⟩, if_pos e]
        · rw [if_neg (fun z => e z.1), if_neg e]
    | succ d ih =>
      intro c ca' hc hca
      -- below
      have low : ∀ (ca1 : Nat → Int32), (∀ q, q < W * H → ∀ j, j < 4 → ca1 (4 * q + j) = ca (4 * q + j) + (if (nx = true ∧ q = pn) ∧ j < c + 1 then mis z P w j / 2 else 0) + (if (y + 1 < H ∧ q = p + W) ∧ j < c then mis z P w j - mis z P w j / 2 else 0)) → vcMd_missed_179 2304 256 576 256 2304 a1 (nI W) (nI H) a4 a5 a6 a7 (nI z) a8 msa pa (nI x) (nI y) dx K13 K102 post (nI p) s (nI c) (mis z P w c) (upd ha p (nI (chk z P w))) bf ca1 := by
        intro ca1 h1
        unfold vcMd_missed_179 vcMd_missed_216
        rw [nI_1, nI_1, nI_leI (by omega) (by omega), nI_add, li_4, pk_mul, nI_add]
        refine ⟨fun q => ih (c + 1) _ (by omega) (fun q2 hq2 j hj => ?_), fun q => ?_⟩
        · rw [h1 q2 hq2 j hj]
          congr 1
          rw [if_neg (by omega), if_neg (by omega)]
        · have hbb := hb (by omega)
          refine ⟨vp_in_nI (by omega) (by omega), n2, vp_in_nI (by omega) (by omega), ?_⟩
          rw [nz_cl (by omega)]
          refine ih (c + 1) _ (by omega) (fun q2 hq2 j hj => ?_)
          by_cases e : 4 * q2 + j = 4 * (p + W) + c
          · have e1 : q2 = p + W := by omega
            have e2 : j = c := by omega
            rw [e, pk_us, ← e, h1 q2 hq2 j hj, e2, if_neg (show ¬ ((y + 1 < H ∧ q2 = p + W) ∧ c < c) by omega), if_pos (show (y + 1 < H ∧ q2 = p + W) ∧ c < c + 1 by omega), Int32.add_zero]
          · rw [pk_un e, h1 q2 hq2 j hj]
            congr 1
            by_cases e3 : (y + 1 < H ∧ q2 = p + W) ∧ j < c
            · rw [if_pos e3, if_pos (by omega)]
            · rw [if_neg e3, if_neg (by omega)]
      have e0 : ca' (4 * p + c) = ca (4 * p + c) := by
        rw [hca p hpl c (by omega), if_neg (fun z => (hpn z.1.1).2.2.1 z.1.2.symm), if_neg (by omega), Int32.add_zero, Int32.add_zero]
      have eh : upd ha p (nI (chk z P w)) p = nI (chk z P w) := pk_us
      apply h102
      unfold vcMd_missed_102
      refine ⟨fun q => absurd q (by rw [li_4]; exact nI_ge (by omega) (by omega)), fun _ => ?_⟩
      rw [nz_cl (a := p) (by omega), eh, li_4, pk_mul, nI_add, pk_mul, nI_add, nz_cl (a := 4 * p + c) (by omega), nz_cl (a := 4 * chk z P w + c) (by omega), (hS p hpl).2 c (by omega), e0, (hP _ hk).2 c (by omega), ← hw c (by omega)]
      refine ⟨vp_in_nI (by omega) (by omega), vp_in_nI (by omega) (by omega), vp_in_nI (by omega) (by omega), vp_in_nI (by omega) (by omega), fun v hv => ?_⟩
      have hv' : v = mis z P w c := hv
      rw [hv']
      refine ⟨fun q => low _ (fun q2 hq2 j hj => ?_), fun q => ?_⟩
      · have hn : ¬ nx = true := fun z => by
          rw [z, if_pos rfl] at hs
          rw [hs] at q
          exact n10 q
        rw [hca q2 hq2 j hj, if_neg (show ¬ ((nx = true ∧ q2 = pn) ∧ j < c) from fun z => hn z.1.1), if_neg (show ¬ ((nx = true ∧ q2 = pn) ∧ j < c + 1) from fun z => hn z.1.1)]
      · have hn : nx = true := Classical.byContradiction (fun z => by
          rw [if_neg z] at hs
          exact q hs)
        obtain ⟨g1, g2, g3, g4⟩ := hpn hn
        rw [g1, pk_mul, nI_add, nz_cl (by omega)]
        refine ⟨vp_in_nI (by omega) (by omega), n2, vp_in_nI (by omega) (by omega), low _ (fun q2 hq2 j hj => ?_)⟩
        by_cases e : 4 * q2 + j = 4 * pn + c
        · have e1 : q2 = pn := by omega
          have e2 : j = c := by omega
          rw [e, pk_us, ← e, hca q2 hq2 j hj, e2, if_neg (show ¬ ((nx = true ∧ q2 = pn) ∧ c < c) from fun z => Nat.lt_irrefl _ z.2), if_pos (show (nx = true ∧ q2 = pn) ∧ c < c + 1 from ⟨⟨hn, e1⟩, Nat.lt_succ_self c⟩), if_neg (show ¬ ((y + 1 < H ∧ q2 = p + W) ∧ c < c) from fun z => Nat.lt_irrefl _ z.2), Int32.add_zero, Int32.add_zero, Int32.add_zero]
        · rw [pk_un e, hca q2 hq2 j hj]
          congr 2
          by_cases e3 : (nx = true ∧ q2 = pn) ∧ j < c
          · rw [if_pos e3, if_pos ⟨e3.1, by omega⟩]
          · rw [if_neg e3, if_neg (fun z => e3 ⟨z.1, by have := z.1.2; omega⟩)]
  have l13 : ∀ (d c : Nat) (bf : Nat → Int32), c + d = 4 → (∀ j, j < c → bf j = nI (bri (w j))) → K13 (nI p) (nI c) ha bf ca := by
    intro d
    induction d with
    | zero =>
      intro c bf hc hbf
      have : c = 4 := by omega
      subst this
      apply h13
      unfold vcMd_missed_13 vcMd_missed_96 vcMd_missed_97
      refine ⟨fun _ => ?_, fun q => absurd (by decide) q⟩
      rw [nz_cl (by omega), li_0]
      refine sp_Md_nearestTo (t := bcol w) (by omega) (by omega) (by omega) hz0 (by omega) hP (fun c hc => ?_) (fun k hk2 => ?_)
      · rw [Nat.zero_add, hbf c hc, bcol_lev hc]
      · have e : chk z P w = k := near_of hk2
        rw [← e]
        have go : ∀ s : Int32, (s = if nx = true then 1 else 0) → K102 (nI p) s (nI 0) (upd ha p (nI (chk z P w))) bf ca := by
          intro s hs
          refine l102 bf s hs 4 0 ca (by omega) (fun q hq j hj => ?_)
          rw [if_neg (fun z => Nat.not_lt_zero _ z.2), if_neg (fun z => Nat.not_lt_zero _ z.2), Int32.add_zero, Int32.add_zero]
        refine ⟨vp_in_nI (by omega) (by omega), fun q => go _ ?_, fun q => ⟨fun q2 => go _ ?_, fun q2 => go _ ?_⟩⟩
        · rw [f1 q]; rfl
        · rw [f2 q q2]; rfl
        · rw [f3 q q2]; rfl
    | succ d ih =>
      intro c bf hc hbf
      apply h13
      unfold vcMd_missed_13
      refine ⟨fun q => absurd q (by rw [li_4]; exact nI_ge (by omega) (by omega)), fun _ => ?_⟩
      rw [li_4, pk_mul, nI_add, nz_cl (a := 4 * p + c) (by omega), (hS p hpl).2 c (by omega), ← hw c (by omega), nz_cl (by omega), nI_1]
      refine ⟨vp_in_nI (by omega) (by omega), vp_in_nI (by omega) (by omega), sp_br ⟨vp_in_nI (by omega) (by omega), ih (c + 1) _ (by omega) (fun j hj => ?_)⟩⟩
      by_cases e : j = c
      · rw [e]; exact pk_us
      · rw [pk_un e]; exact hbf j (by omega)
  exact l13 4 0 bf (by omega) (fun j hj => absurd hj (Nat.not_lt_zero _))
/-- what lies in the model's row of carried parts -/
def dJ (W H : Nat) (S : Nat → Nat) (z : Nat) (P : Nat → Nat) (tn : Bool) (y i : Nat) (ca : Nat → Int32) : Prop :=
  (∀ x, x < W → ∀ c, c < 4 → (i ≤ xps W (bwd tn y) x → ca (4 * (y * W + x) + c) = (dsi W S z P (bwd tn y) y (drw W S z P tn y) i).2 x c + (if xps W (bwd tn y) x = i then (dsi W S z P (bwd tn y) y (drw W S z P tn y) i).1 c else 0)) ∧ (y + 1 < H → ca (4 * ((y + 1) * W + x) + c) = if xps W (bwd tn y) x < i then (dsi W S z P (bwd tn y) y (drw W S z P tn y) i).2 x c else 0)) ∧
  ∀ q, (y + 2) * W ≤ q → q < W * H → ∀ c, c < 4 → ca (4 * q + c) = 0
theorem dJ_0 {W H z : Nat} {S P : Nat → Nat} {tn : Bool} {ca : Nat → Int32} (h : ∀ q, q < 4 * (W * H) → ca q = 0) (hH : 0 < H) : dJ W H S z P tn 0 0 ca := by
  refine ⟨fun x hx c hc => ⟨fun _ => ?_, fun q => ?_⟩, fun q _ hq c hc => h _ (by omega)⟩
  · have := plc_at hx hH
    rw [h _ (by omega)]
    show (0 : Int32) = 0 + (if _ then 0 else 0)
    split <;> rfl
  · have := plc_at hx q
    rw [h _ (by omega), if_neg (Nat.not_lt_zero _)]
theorem dJ_row {W H z y : Nat} {S P : Nat → Nat} {tn : Bool} {ca : Nat → Int32} (hW : 0 < W) (hy : y + 1 < H) (h : dJ W H S z P tn y W ca) : dJ W H S z P tn (y + 1) 0 ca := by
  refine ⟨fun x hx c hc => ⟨fun _ => ?_, fun q => ?_⟩, fun q hq1 hq c hc => h.2 q ?_ hq c hc⟩
  · rw [(h.1 x hx c hc).2 hy, if_pos (xps_lt hx)]
    show _ = (dsi W S z P (bwd tn y) y (drw W S z P tn y) W).2 x c + (if _ then 0 else 0)
    split <;> rw [Int32.add_zero]
  · have := plc_at hx q
    rw [h.2 ((y + 1 + 1) * W + x) (Nat.le_add_right _ _) this c hc, if_neg (Nat.not_lt_zero _)]
  · have := Nat.mul_le_mul_right W (show y + 2 ≤ y + 1 + 2 by omega)
    omega
theorem dJ_step {W H z y i : Nat} {S P : Nat → Nat} {tn : Bool} {ca ca' : Nat → Int32} (hi : i < W) (hy : y < H) (h : dJ W H S z P tn y i ca)
    (h' : ∀ q, q < W * H → ∀ c, c < 4 → ca' (4 * q + c) = ca (4 * q + c) + (if decide (i + 1 < W) = true ∧ q = y * W + xps W (bwd tn y) (i + 1) then mis z P (dws W S (bwd tn y) y i (dsi W S z P (bwd tn y) y (drw W S z P tn y) i)) c / 2 else 0) + (if y + 1 < H ∧ q = y * W + xps W (bwd tn y) i + W then mis z P (dws W S (bwd tn y) y i (dsi W S z P (bwd tn y) y (drw W S z P tn y) i)) c - mis z P (dws W S (bwd tn y) y i (dsi W S z P (bwd tn y) y (drw W S z P tn y) i)) c / 2 else 0)) :
    dJ W H S z P tn y (i + 1) ca' := by
  have hx0 := xps_lt (W := W) (b := bwd tn y) hi
  have e1 : (y + 1) * W = y * W + W := Nat.succ_mul y W
  have e2 : (y + 2) * W = y * W + W + W := by rw [Nat.succ_mul, Nat.succ_mul]
  obtain ⟨m, hm⟩ : ∃ m, m = mis z P (dws W S (bwd tn y) y i (dsi W S z P (bwd tn y) y (drw W S z P tn y) i)) := ⟨_, rfl⟩
  rw [← hm] at h'
  have hs : dsi W S z P (bwd tn y) y (drw W S z P tn y) (i + 1) = (fun c => m c / 2, fun x c => if x = xps W (bwd tn y) i then m c - m c / 2 else (dsi W S z P (bwd tn y) y (drw W S z P tn y) i).2 x c) := by
    rw [hm]
    rfl
  unfold dJ at h ⊢
  rw [hs]
  obtain ⟨A, B, hAB⟩ : ∃ A B, dsi W S z P (bwd tn y) y (drw W S z P tn y) i = (A, B) := ⟨_, _, rfl⟩
  rw [hAB] at h ⊢
  try dsimp only at h
  try dsimp only
  refine ⟨fun x hx c hc => ⟨fun q => ?_, fun q => ?_⟩, fun q hq1 hq c hc => ?_⟩
  · have hne : x ≠ xps W (bwd tn y) i := fun e => by rw [e, xps_xps hi] at q; omega
    rw [h' _ (plc_at hx hy) c hc, ((h.1 x hx c hc).1 (by omega)), if_neg (show ¬ xps W (bwd tn y) x = i by omega), if_neg hne, if_neg (show ¬ (y + 1 < H ∧ y * W + x = y * W + xps W (bwd tn y) i + W) by omega), Int32.add_zero, Int32.add_zero]
    congr 1
    by_cases c2 : xps W (bwd tn y) x = i + 1
    · have hl := xps_lt (b := bwd tn y) hx
      rw [if_pos c2, if_pos ⟨decide_eq_true (by omega), by rw [← c2, xps_xps hx]⟩]
    · rw [if_neg c2, if_neg]
      rintro ⟨d1, d2⟩
      have d3 := of_decide_eq_true d1
      have d4 : x = xps W (bwd tn y) (i + 1) := by omega
      exact c2 (by rw [d4, xps_xps d3])
  · have hpl := plc_at hx q
    rw [h' _ hpl c hc, (h.1 x hx c hc).2 q]
    have hn : ¬ (decide (i + 1 < W) = true ∧ (y + 1) * W + x = y * W + xps W (bwd tn y) (i + 1)) := by
      rintro ⟨d1, d2⟩
      have d3 := xps_lt (b := bwd tn y) (of_decide_eq_true d1)
      omega
    rw [if_neg hn, Int32.add_zero]
    by_cases c2 : x = xps W (bwd tn y) i
    · have c3 : xps W (bwd tn y) x = i := by rw [c2, xps_xps hi]
      rw [if_neg (show ¬ xps W (bwd tn y) x < i by omega), if_pos (show y + 1 < H ∧ (y + 1) * W + x = y * W + xps W (bwd tn y) i + W by omega), if_pos (show xps W (bwd tn y) x < i + 1 by omega), if_pos c2, Int32.zero_add]
    · have c3 : xps W (bwd tn y) x ≠ i := fun e => c2 (by rw [← e, xps_xps hx])
      rw [if_neg (show ¬ (y + 1 < H ∧ (y + 1) * W + x = y * W + xps W (bwd tn y) i + W) by omega), if_neg c2, Int32.add_zero]
      by_cases c4 : xps W (bwd tn y) x < i
      · rw [if_pos c4, if_pos (by omega)]
      · rw [if_neg c4, if_neg (by omega)]
  · rw [h' q hq c hc, h.2 q hq1 hq c hc, if_neg, if_neg (show ¬ (y + 1 < H ∧ q = y * W + xps W (bwd tn y) i + W) by omega), Int32.add_zero, Int32.add_zero]
    rintro ⟨d1, d2⟩
    have d3 := xps_lt (b := bwd tn y) (of_decide_eq_true d1)
    omega
def dhp (W : Nat) (S : Nat → Nat) (z : Nat) (P : Nat → Nat) (kind : Nat) (p : Nat) : Nat := if kind = 0 then near z P (S p) else dk W S z P (decide (kind = 2)) p
theorem dhp_lt {W z p kind : Nat} {S P : Nat → Nat} (hz : 0 < z) : dhp W S z P kind p < z := by
  unfold dhp
  split
  · exact near_lt hz
  · exact dk_lt hz
def dct (N W : Nat) (S : Nat → Nat) (z : Nat) (P : Nat → Nat) (kind : Nat) : Nat := cnt N (fun p => !decide (dhp W S z P kind p = near z P (S p)))
theorem dct_s {N W z kind : Nat} {S P : Nat → Nat} : (dhp W S z P kind N = near z P (S N) → dct (N + 1) W S z P kind = dct N W S z P kind) ∧ (dhp W S z P kind N ≠ near z P (S N) → dct (N + 1) W S z P kind = dct N W S z P kind + 1) := by
  have e : dct (N + 1) W S z P kind = dct N W S z P kind + (if (!decide (dhp W S z P kind N = near z P (S N))) = true then 1 else 0) := rfl
  refine ⟨fun q => ?_, fun q => ?_⟩
  · rw [e, decide_eq_true q]; rfl
  · rw [e, decide_eq_false q]; rfl
theorem sp_Md_dither {W H z kind : Nat} {a1 a4 a5 a6 a8 : Int32} {msa pa ha bf ca : Nat → Int32} {S P : Nat → Nat} {post : Int32 → Int32 → (Nat → Int32) → (Nat → Int32) → (Nat → Int32) → Prop}
    (hW0 : 0 < W) (hH0 : 0 < H) (hW : W ≤ 24) (hH : H ≤ 24) (hz0 : 0 < z) (hz : z ≤ 64) (hkd : kind ≤ 2) (hS : chs msa (W * H) S) (hP : chs pa z P)
    (h : ∀ ha' bf' ca', (∀ p, p < W * H → ha' p = nI (dhp W S z P kind p)) → post (nI (dct (W * H) W S z P kind)) 0 ha' bf' ca') :
    wpMd_dither 2304 256 576 256 2304 a1 (nI W) (nI H) a4 a5 a6 1 (nI z) a8 msa pa ha bf ca (nI kind) post := by
  have hN := wh_le hW hH
  have e4 : 4 * W * H = 4 * (W * H) := Nat.mul_assoc _ _ _
  unfold wpMd_dither
  intro K25 K55 K84 K181 h25 h55 h84 h181
  have fin : ∀ (ha bf ca : Nat → Int32), (∀ p, p < W * H → ha p = nI (dhp W S z P kind p)) → K181 0 0 0 ha bf ca := by
    intro ha bf ca hha
    have loop : ∀ (d p : Nat), p + d = W * H → K181 (nI (dct p W S z P kind)) (nI p) 0 ha bf ca := by
      intro d
      induction d with
      | zero =>
        intro p hp
        apply h181
        unfold vcMd_dither_181
        rw [pk_mul, ← hp, Nat.add_zero]
        have := h ha bf ca hha
        rw [← hp, Nat.add_zero] at this
        exact ⟨fun _ => this, fun q => absurd (nI_le (Nat.le_refl _) (by omega)) q⟩
      | succ d ih =>
        intro p hp
        have hn := ih (p + 1) (by omega)
        have hl1 := dhp_lt (W := W) (S := S) (P := P) (kind := kind) (p := p) hz0
        have hl2 := near_lt (P := P) (t := S p) hz0
        apply h181
        unfold vcMd_dither_181 vcMd_dither_220
        rw [pk_mul, li_4, pk_mul, nz_cl (by omega), hha p (by omega)]
        refine ⟨fun q => absurd q (nI_ge (by omega) (by omega)), fun _ => ⟨vp_in_nI (by omega) (by omega), ?_⟩⟩
        refine sp_Md_nearestTo (by omega) (by omega) (by omega) hz0 (by omega) hP (chs_A hS (by omega)) (fun k hk => ?_)
        rw [← near_of hk, nI_eq (by omega) (by omega)]
        refine ⟨fun q v hv => ?_, fun q v hv => ?_⟩
        · rw [dct_s.1 q] at hn
          rw [hv, li_0, nI_add, nI_1]
          exact hn
        · rw [dct_s.2 q] at hn
          rw [hv, nI_1, nI_1]
          exact hn
    exact loop (W * H) 0 (by omega)
  -- kind 0
  have l55a : kind = 0 → ∀ (d y : Nat) (ha bf ca : Nat → Int32), y + d = H → (∀ p, p < y * W → ha p = nI (near z P (S p))) → K55 (nI y) 0 ha bf ca := by
    intro k0 d
    induction d with
    | zero =>
      intro y ha bf ca hy hha
      have : y = H := by omega
      subst this
      apply h55
      unfold vcMd_dither_55
      refine ⟨fun _ => fin _ _ _ (fun p hp => ?_), fun q => absurd (nI_le (Nat.le_refl _) (by omega)) q⟩
      unfold dhp
      rw [if_pos k0]
      exact hha p (by rw [Nat.mul_comm]; exact hp)
    | succ d ih =>
      intro y ha bf ca hy hha
      have e1 : (y + 1) * W = y * W + W := Nat.succ_mul y W
      have l84 : ∀ (f i : Nat) (ha bf ca : Nat → Int32), i + f = W → (∀ p, p < y * W + i → ha p = nI (near z P (S p))) → K84 (nI y) 0 (nI i) 0 ha bf ca := by
        intro f
        induction f with
        | zero =>
          intro i ha bf ca hi hha
          have : i = W := by omega
          subst this
          apply h84
          unfold vcMd_dither_84
          refine ⟨fun _ => ?_, fun q => absurd (nI_le (Nat.le_refl _) (by omega)) q⟩
          rw [nI_1]
          exact ih (y + 1) _ _ _ (by omega) (fun p hp => hha p (by omega))
        | succ f ihf =>
          intro i ha bf ca hi hha
          have hpl := plc_at (show i < W by omega) (show y < H by omega)
          apply h84
          unfold vcMd_dither_84 vcMd_dither_165
          refine ⟨fun q => absurd q (nI_ge (by omega) (by omega)), fun _ => ⟨fun q => absurd (by rw [k0]; rfl) q, fun _ => ?_⟩⟩
          rw [pk_mul, nI_add, Nat.mul_comm W y, li_4, pk_mul, nz_cl (by omega), nI_1]
          refine sp_Md_nearestTo (by omega) (by omega) (by omega) hz0 (by omega) hP (chs_A hS hpl) (fun k hk => ⟨vp_in_nI (by omega) (by omega), ?_⟩)
          rw [← near_of hk]
          refine ihf (i + 1) _ _ _ (by omega) (fun p hp => ?_)
          by_cases c : p = y * W + i
          · rw [c]; exact pk_us
          · rw [pk_un c]; exact hha p (by omega)
      apply h55
      unfold vcMd_dither_55 vcMd_dither_79 vcMd_dither_80
      refine ⟨fun q => absurd q (nI_ge (by omega) (by omega)), fun _ => ⟨fun _ => l84 W 0 _ _ _ (by omega) (fun p hp => hha p (by omega)), fun q => absurd q (by rw [k0]; decide)⟩⟩
  -- kinds 1 and 2
  have l55b : kind ≠ 0 → ∀ (d y : Nat) (ha bf ca : Nat → Int32), y + d = H → (y < H → dJ W H S z P (decide (kind = 2)) y 0 ca) → (∀ p, p < W * H → vis W (decide (kind = 2)) y 0 p → ha p = nI (dk W S z P (decide (kind = 2)) p)) → K55 (nI y) 0 ha bf ca := by
    intro k0 d
    obtain ⟨tn, htn⟩ : ∃ tn, tn = decide (kind = 2) := ⟨_, rfl⟩
    rw [← htn]
    induction d with
    | zero =>
      intro y ha bf ca hy hJ hha
      have : y = H := by omega
      subst this
      apply h55
      unfold vcMd_dither_55
      refine ⟨fun _ => fin _ _ _ (fun p hp => ?_), fun q => absurd (nI_le (Nat.le_refl _) (by omega)) q⟩
      unfold dhp
      rw [if_neg k0, ← htn]
      exact hha p hp (vis_e hp)
    | succ d ih =>
      intro y ha bf ca hy hJ hha
      have l84 : ∀ s : Int32, (s = if bwd tn y = true then 1 else 0) → ∀ (f i : Nat) (ha bf ca : Nat → Int32), i + f = W → dJ W H S z P tn y i ca → (∀ p, p < W * H → vis W tn y i p → ha p = nI (dk W S z P tn p)) → K84 (nI y) s (nI i) 0 ha bf ca := by
        intro s hs f
        induction f with
        | zero =>
          intro i ha bf ca hi hJ hha
          have : i = W := by omega
          subst this
          apply h84
          unfold vcMd_dither_84
          refine ⟨fun _ => ?_, fun q => absurd (nI_le (Nat.le_refl _) (by omega)) q⟩
          rw [nI_1]
          exact ih (y + 1) _ _ _ (by omega) (fun q => dJ_row hW0 q hJ) (fun p hp hv => hha p hp (vis_r hW0 hv))
        | succ f ihf =>
          intro i ha bf ca hi hJ hha
          have hiW : i < W := by omega
          have hyH : y < H := by omega
          have hxl := xps_lt (W := W) (b := bwd tn y) hiW
          have nk0 : ¬ nI kind = 0 := nz0 (by omega) (by omega)
          have step : ∀ dx : Int32, ((dx = 1 ∧ bwd tn y = false) ∨ (dx = -1 ∧ bwd tn y = true)) → vcMd_dither_162 2304 256 576 256 2304 (nI W) (nI H) a4 a5 a6 1 (nI z) a8 msa pa (nI kind) K25 K55 K84 K181 post (nI y) s (nI i) dx (nI y) (nI (xps W (bwd tn y) i)) 0 ha bf ca := by
            intro dx hdx
            unfold vcMd_dither_162 vcMd_dither_165
            refine sp_Md_missed (w := dws W S (bwd tn y) y i (dsi W S z P (bwd tn y) y (drw W S z P tn y) i)) (pn := y * W + xps W (bwd tn y) (i + 1)) (nx := decide (i + 1 < W)) hW hH hxl hyH hz0 hz hS hP (fun c hc => ?_) ?_ (fun bf' ca' hca => ?_)
            · rw [(hJ.1 _ hxl c hc).1 (by rw [xps_xps hiW]; exact Nat.le_refl _), if_pos (xps_xps hiW)]
              unfold dws
              rw [Int32.add_assoc]
              congr 1
              exact Int32.add_comm _ _
            · rcases hdx with ⟨d1, d2⟩ | ⟨d1, d2⟩
              · left
                rw [d2]
                refine ⟨d1, rfl, ?_⟩
                rw [decide_eq_true_iff]
                exact Iff.rfl
              · right
                rw [d2]
                have e1 : xps W true i = W - 1 - i := if_pos rfl
                have e2 : xps W true (i + 1) = W - 1 - (i + 1) := if_pos rfl
                rw [e1, e2, decide_eq_true_iff]
                exact ⟨d1, by omega, by omega⟩
            · rw [nI_1]
              refine ihf (i + 1) _ _ _ (by omega) (dJ_step hiW hyH hJ hca) (fun p hp hv => ?_)
              rcases vis_s hiW hv with hv | hv
              · by_cases e : p = y * W + xps W (bwd tn y) i
                · rw [e, pk_us, dk_at hiW]; rfl
                · rw [pk_un e]; exact hha p hp hv
              · rw [hv, pk_us, dk_at hiW]; rfl
          apply h84
          unfold vcMd_dither_84 vcMd_dither_152
          refine ⟨fun q => absurd q (nI_ge (by omega) (by omega)), fun _ => ⟨fun _ => ⟨fun q => ?_, fun q => ?_⟩, fun q => absurd q nk0⟩⟩
          · have e : bwd tn y = false := by
              rcases hbb : bwd tn y with _ | _
              · rfl
              · rw [hbb, if_pos rfl] at hs
                rw [hs] at q
                exact absurd q n10
            have st := step 1 (Or.inl ⟨rfl, e⟩)
            have e2 : xps W (bwd tn y) i = i := by unfold xps; rw [e, if_neg (by decide)]
            rw [e2] at st
            exact ⟨fun _ => st, fun q2 => absurd q q2⟩
          · have e : bwd tn y = true := by
              rcases hbb : bwd tn y with _ | _
              · rw [hbb, if_neg (by decide)] at hs
                exact absurd hs q
              · rfl
            have st := step (-1) (Or.inr ⟨rfl, e⟩)
            have e2 : xps W (bwd tn y) i = W - 1 - i := by unfold xps; rw [e, if_pos rfl]
            rw [e2] at st
            refine ⟨fun q2 => absurd q2 q, fun _ => ?_⟩
            have e3 : nI W - 1 - nI i = nI (W - 1 - i) := by rw [li_1, nz_sub (by omega), nz_sub (by omega)]
            rw [e3]
            exact st
      apply h55
      unfold vcMd_dither_55 vcMd_dither_79 vcMd_dither_80
      refine ⟨fun q => absurd q (nI_ge (by omega) (by omega)), fun _ => ⟨fun q => l84 0 ?_ W 0 _ _ _ (by omega) (hJ (by omega)) hha, fun q => ⟨by decide, fun q2 => l84 0 ?_ W 0 _ _ _ (by omega) (hJ (by omega)) hha, fun q2 => l84 1 ?_ W 0 _ _ _ (by omega) (hJ (by omega)) hha⟩⟩⟩
      · have e : tn = false := by
          rw [htn]
          exact decide_eq_false (fun e => q (by rw [e]; rfl))
        rw [e]; rfl
      · rw [li_2, nz_div (by omega) (by omega) (by omega), pk_mul, nz_sub (by omega), li_1, nI_eq (by omega) (by omega)] at q2
        have e : bwd tn y = false := by
          unfold bwd
          rw [decide_eq_false (show ¬ y % 2 = 1 by omega), Bool.and_false]
        rw [e]; rfl
      · rw [li_2, nz_div (by omega) (by omega) (by omega), pk_mul, nz_sub (by omega), li_1, nI_eq (by omega) (by omega)] at q2
        rw [li_2, nI_eq (by omega) (by omega)] at q
        have e : bwd tn y = true := by
          unfold bwd
          rw [htn, decide_eq_true q, decide_eq_true (show y % 2 = 1 by omega)]; rfl
        rw [e]; rfl
  have l25 : ∀ (d k : Nat) (ca : Nat → Int32), k + d = 4 * (W * H) → (∀ j, j < k → ca j = 0) → K25 (nI k) 0 ha bf ca := by
    intro d
    induction d with
    | zero =>
      intro k ca hk hca
      have : k = 4 * (W * H) := by omega
      subst this
      apply h25
      unfold vcMd_dither_25
      rw [li_4, pk_mul, pk_mul, e4]
      refine ⟨fun _ => ?_, fun q => absurd (nI_le (Nat.le_refl _) (by omega)) q⟩
      by_cases k0 : kind = 0
      · exact l55a k0 H 0 _ _ _ (by omega) (fun p hp => absurd hp (by omega))
      · exact l55b k0 H 0 _ _ _ (by omega) (fun _ => dJ_0 hca hH0) (fun p hp hv => absurd hv vis_0)
    | succ d ih =>
      intro k ca hk hca
      apply h25
      unfold vcMd_dither_25
      rw [li_4, pk_mul, pk_mul, e4]
      refine ⟨fun q => absurd q (nI_ge (by omega) (by omega)), fun _ => ⟨vp_in_nI (by omega) (by omega), ?_⟩⟩
      rw [nz_cl (by omega), nI_1]
      refine ih (k + 1) _ (by omega) (fun j hj => ?_)
      by_cases c : j = k
      · rw [c]; exact pk_us
      · rw [pk_un c]; exact hca j (by omega)
  unfold vcMd_dither_14 vcMd_dither_15
  refine ⟨fun q => absurd q (nI_n0 (by omega)), fun _ => ⟨fun q => absurd q ?_, fun _ => sp_te1 n10 ⟨fun _ => ?_, fun q => absurd q n10⟩⟩⟩
  · rw [li_2, nI_ltI (by omega) (by omega)]; omega
  · exact l25 (4 * (W * H)) 0 ca (by omega) (fun j hj => absurd hj (Nat.not_lt_zero _))
