/-! dithering: what is missed is carried on; the class -/
def bri (w : Int32) : Nat := if w < 0 then 0 else if 255 < w then 255 else w.toNatClampNeg
theorem bri_n {n : Nat} (h : n < 2147483648) : bri (nI n) = if 255 < n then 255 else n := by
  unfold bri
  rw [if_neg (nI_n0 h), nz_cl h]
  by_cases c : 255 < n
  · rw [if_pos c, if_pos (by rw [li_255]; exact (nI_ltI (by omega) (by omega)).mpr c)]
  · rw [if_neg c, if_neg (by rw [li_255, nI_ltI (by omega) (by omega)]; exact c)]
theorem bri_lt (w : Int32) : bri w < 256 := by
  rcases i32_or w with h | ⟨n, h1, rfl⟩
  · unfold bri
    rw [if_pos h]
    omega
  · rw [bri_n h1]
    split <;> omega
theorem brc (w : Int32) : (if (0 : Int32) < (if w < 255 then w else 255) then (if w < 255 then w else 255) else 0) = nI (bri w) := by
  rcases i32_or w with h | ⟨n, h1, rfl⟩
  · have h2 : w < 255 := Int32.lt_of_lt_of_le h (by decide)
    have h3 : ¬ (0 : Int32) < w := by
      intro q
      rw [Int32.lt_iff_toInt_lt, Int32.toInt_zero] at h q
      omega
    rw [if_pos h2, if_neg h3]
    unfold bri
    rw [if_pos h]
    rfl
  · rw [bri_n h1]
    by_cases c : n < 255
    · have h2 : nI n < 255 := by rw [li_255]; exact (nI_ltI (by omega) (by omega)).mpr c
      have h3 : ¬ 255 < n := by omega
      rw [if_pos h2, if_neg h3]
      by_cases c2 : 0 < n
      · have h4 : (0 : Int32) < nI n := by rw [li_0]; exact (nI_ltI (by omega) (by omega)).mpr c2
        rw [if_pos h4]
      · have h4 : ¬ (0 : Int32) < nI n := by rw [li_0, nI_ltI (by omega) (by omega)]; exact c2
        rw [if_neg h4, show n = 0 by omega]
        rfl
    · have h2 : ¬ nI n < 255 := by rw [li_255, nI_ltI (by omega) (by omega)]; exact c
      have h3 : (0 : Int32) < 255 := by decide
      rw [if_neg h2, if_pos h3]
      by_cases c2 : 255 < n
      · rw [if_pos c2]; rfl
      · rw [if_neg c2, show n = 255 by omega]; rfl
def bcol (w : Nat → Int32) : Nat := pk4 (bri (w 0)) (bri (w 1)) (bri (w 2)) (bri (w 3))
theorem bcol_lev {w : Nat → Int32} {c : Nat} (hc : c < 4) : lev (bcol w) c = bri (w c) := by
  have := lev_pk (bri_lt (w 0)) (bri_lt (w 1)) (bri_lt (w 2)) (bri_lt (w 3))
  rcases co4 hc with rfl | rfl | rfl | rfl
  · exact this.1
  · exact this.2.1
  · exact this.2.2.1
  · exact this.2.2.2
def chk (z : Nat) (P : Nat → Nat) (w : Nat → Int32) : Nat := near z P (bcol w)
def mis (z : Nat) (P : Nat → Nat) (w : Nat → Int32) (c : Nat) : Int32 := w c - nI (lev (P (chk z P w)) c)
theorem sp_Ca_choose {nb W z t x : Nat} {ah be wi lv : Nat → Int32} {P : Nat → Nat} {A w : Nat → Int32} {B : Nat → Nat → Int32} {post : Int32 → (Nat → Int32) → (Nat → Int32) → (Nat → Int32) → Prop}
    (hnb : nb < 2147483648) (hnb2 : 4 * W ≤ nb) (hz0 : 0 < z) (hz : z ≤ 64) (hP : chs lv z P) (ht : t < 4294967296) (hx : x < W) (hah : ∀ c, c < 4 → ah c = A c) (hbe : ∀ x, x < W → ∀ c, c < 4 → be (4 * x + c) = B x c) (hw : ∀ c, w c = nI (lev t c) + A c + B x c)
    (h : ∀ ah' be' wi', (∀ c, c < 4 → ah' c = mis z P w c / 2) → (∀ x', x' < W → ∀ c, c < 4 → be' (4 * x' + c) = if x' = x then mis z P w c - mis z P w c / 2 else B x' c) → post (nI (chk z P w)) ah' be' wi') :
    wpCa_choose 4 nb 4 256 ah be wi (nI z) lv (nI t) (nI x) post := by
  unfold wpCa_choose
  intro K3 K77 h3 h77
  have n2 : ¬ (2 : Int32) = 0 := by decide
  have hk : chk z P w < z := near_lt hz0
  have l77 : ∀ (wi : Nat → Int32), (∀ c, c < 4 → wi c = w c) → ∀ (d c : Nat) (ah be : Nat → Int32), c + d = 4 → (∀ j, j < c → ah j = mis z P w j / 2) → (∀ x', x' < W → ∀ j, j < 4 → be (4 * x' + j) = if x' = x ∧ j < c then mis z P w j - mis z P w j / 2 else B x' j) → K77 (nI (chk z P w)) (nI c) ah be wi := by
    intro wi hwi d
    induction d with
    | zero =>
      intro c ah be hc h1 h2
      have : c = 4 := by omega
      subst this
      apply h77
      unfold vcCa_choose_77
      refine ⟨fun _ => h _ _ _ h1 (fun x' hx' j hj => ?_), fun q => absurd (by decide) q⟩
      rw [h2 x' hx' j hj]
      by_cases e : x' = x
      · rw [if_pos ⟨e, hj⟩, if_pos e]
      · rw [if_neg (fun q => e q.1), if_neg e]
    | succ d ih =>
      intro c ah be hc h1 h2
      apply h77
      unfold vcCa_choose_77
      refine ⟨fun q => absurd q (by rw [li_4]; exact nI_ge (by omega) (by omega)), fun _ => ?_⟩
      rw [show nI (chk z P w) * 4 + nI c = nI (4 * chk z P w + c) by rw [li_4, pk_mul, nI_add, Nat.mul_comm], show nI x * 4 + nI c = nI (4 * x + c) by rw [li_4, pk_mul, nI_add, Nat.mul_comm], nz_cl (a := c) (by omega), nz_cl (a := 4 * x + c) (by omega), nz_cl (a := 4 * chk z P w + c) (by omega), hwi c (by omega), (hP _ hk).2 c (by omega), nI_1]
      refine ⟨vp_in_nI (by omega) (by omega), vp_in_nI (by omega) (by omega), fun v hv => ⟨n2, vp_in_nI (by omega) (by omega), n2, vp_in_nI (by omega) (by omega), ?_⟩⟩
      have hv' : v = mis z P w c := hv
      rw [hv']
      refine ih (c + 1) _ _ (by omega) (fun j hj => ?_) (fun x' hx' j hj => ?_)
      · by_cases e : j = c
        · rw [e]; exact pk_us
        · rw [pk_un e]; exact h1 j (by omega)
      · by_cases e : 4 * x' + j = 4 * x + c
        · rw [e, pk_us, if_pos (by omega), show j = c by omega]
        · rw [pk_un e, h2 x' hx' j hj]
          by_cases e2 : x' = x ∧ j < c
          · rw [if_pos e2, if_pos (by omega)]
          · rw [if_neg e2, if_neg (by omega)]
  have l3 : ∀ (d c : Nat) (wi : Nat → Int32), c + d = 4 → (∀ j, j < c → wi j = w j) → K3 (nI c) ah be wi := by
    intro d
    induction d with
    | zero =>
      intro c wi hc hwi
      have : c = 4 := by omega
      subst this
      apply h3
      unfold vcCa_choose_3 wpCa_broughtIn wpCL_within
      refine ⟨fun _ => ?_, fun q => absurd (by decide) q⟩
      rw [li_0, li_1, li_2, li_3, nz_cl (by omega), nz_cl (by omega), nz_cl (by omega), nz_cl (by omega), hwi 0 (by omega), hwi 1 (by omega), hwi 2 (by omega), hwi 3 (by omega)]
      refine ⟨vp_in_nI (by omega) (by omega), vp_in_nI (by omega) (by omega), vp_in_nI (by omega) (by omega), vp_in_nI (by omega) (by omega), ?_⟩
      rw [← li_0, brc, brc, brc, brc]
      have cl := fun post q => sp_cl_t (t := bcol w) (post := post) hz0 hz hP q
      rw [bcol_lev (by omega), bcol_lev (by omega), bcol_lev (by omega), bcol_lev (by omega)] at cl
      refine cl _ (l77 wi hwi 4 0 ah be (by omega) (fun j hj => absurd hj (Nat.not_lt_zero _)) (fun x' hx' j hj => ?_))
      rw [if_neg (by omega)]
      exact hbe x' hx' j hj
    | succ d ih =>
      intro c wi hc hwi
      apply h3
      unfold vcCa_choose_3
      refine ⟨fun q => absurd q (by rw [li_4]; exact nI_ge (by omega) (by omega)), fun _ => ?_⟩
      refine sp_levelOf ht (by omega) ?_
      rw [show nI x * 4 + nI c = nI (4 * x + c) by rw [li_4, pk_mul, nI_add, Nat.mul_comm], nz_cl (a := c) (by omega), nz_cl (a := 4 * x + c) (by omega), hah c (by omega), hbe x hx c (by omega), ← hw c, nI_1]
      refine ⟨vp_in_nI (by omega) (by omega), vp_in_nI (by omega) (by omega), vp_in_nI (by omega) (by omega), ih (c + 1) _ (by omega) (fun j hj => ?_)⟩
      by_cases e : j = c
      · rw [e]; exact pk_us
      · rw [pk_un e]; exact hwi j (by omega)
  exact l3 4 0 wi (by omega) (fun j hj => absurd hj (Nat.not_lt_zero _))
/-- rows and the way through a row -/
def xps (W : Nat) (b : Bool) (i : Nat) : Nat := if b = true then W - 1 - i else i
theorem xps_lt {W i : Nat} {b : Bool} (h : i < W) : xps W b i < W := by
  unfold xps
  split <;> omega
theorem xps_xps {W i : Nat} {b : Bool} (h : i < W) : xps W b (xps W b i) = i := by
  unfold xps
  cases b
  · rw [if_neg (by decide), if_neg (by decide)]
  · rw [if_pos rfl, if_pos rfl]; omega
def dws (W : Nat) (S : Nat → Nat) (b : Bool) (y i : Nat) (s : (Nat → Int32) × (Nat → Nat → Int32)) (c : Nat) : Int32 := nI (lev (S (y * W + xps W b i)) c) + s.1 c + s.2 (xps W b i) c
def dsi (W : Nat) (S : Nat → Nat) (z : Nat) (P : Nat → Nat) (b : Bool) (y : Nat) (b0 : Nat → Nat → Int32) : Nat → (Nat → Int32) × (Nat → Nat → Int32)
  | 0 => (fun _ => 0, b0)
  | i + 1 => (fun c => mis z P (dws W S b y i (dsi W S z P b y b0 i)) c / 2, fun x c => if x = xps W b i then mis z P (dws W S b y i (dsi W S z P b y b0 i)) c - mis z P (dws W S b y i (dsi W S z P b y b0 i)) c / 2 else (dsi W S z P b y b0 i).2 x c)
def bwd (tn : Bool) (y : Nat) : Bool := tn && decide (y % 2 = 1)
def drw (W : Nat) (S : Nat → Nat) (z : Nat) (P : Nat → Nat) (tn : Bool) : Nat → Nat → Nat → Int32
  | 0 => fun _ _ => 0
  | y + 1 => (dsi W S z P (bwd tn y) y (drw W S z P tn y) W).2
def dch (W : Nat) (S : Nat → Nat) (z : Nat) (P : Nat → Nat) (tn : Bool) (y i : Nat) : Nat := chk z P (dws W S (bwd tn y) y i (dsi W S z P (bwd tn y) y (drw W S z P tn y) i))
def dk (W : Nat) (S : Nat → Nat) (z : Nat) (P : Nat → Nat) (tn : Bool) (p : Nat) : Nat := dch W S z P tn (p / W) (xps W (bwd tn (p / W)) (p % W))
theorem dvm {W x : Nat} (y : Nat) (hx : x < W) : (y * W + x) / W = y ∧ (y * W + x) % W = x := by
  rw [Nat.add_comm, Nat.add_mul_div_right x y (by omega), Nat.add_mul_mod_self_right, Nat.div_eq_of_lt hx, Nat.mod_eq_of_lt hx, Nat.zero_add]
  exact ⟨rfl, rfl⟩
def vis (W : Nat) (tn : Bool) (y i p : Nat) : Prop := p / W < y ∨ (p / W = y ∧ xps W (bwd tn y) (p % W) < i)
theorem dk_at {W i y z : Nat} {S P : Nat → Nat} {tn : Bool} (hi : i < W) : dk W S z P tn (y * W + xps W (bwd tn y) i) = dch W S z P tn y i := by
  obtain ⟨e1, e2⟩ := dvm y (xps_lt (b := bwd tn y) hi)
  unfold dk
  rw [e1, e2, xps_xps hi]
theorem vis_s {W i y p : Nat} {tn : Bool} (hi : i < W) (h : vis W tn y (i + 1) p) : vis W tn y i p ∨ p = y * W + xps W (bwd tn y) i := by
  rcases h with h | ⟨h1, h2⟩
  · exact Or.inl (Or.inl h)
  · by_cases c : xps W (bwd tn y) (p % W) < i
    · exact Or.inl (Or.inr ⟨h1, c⟩)
    · right
      have e : xps W (bwd tn y) (p % W) = i := by omega
      have hp := Nat.mod_lt p (show 0 < W by omega)
      have e2 : xps W (bwd tn y) i = p % W := by rw [← e]; exact xps_xps hp
      rw [e2, ← h1, Nat.mul_comm]
      exact (Nat.div_add_mod p W).symm
theorem vis_r {W y p : Nat} {tn : Bool} (hW : 0 < W) (h : vis W tn (y + 1) 0 p) : vis W tn y W p := by
  rcases h with h | ⟨h1, h2⟩
  · by_cases c : p / W < y
    · exact Or.inl c
    · exact Or.inr ⟨by omega, xps_lt (Nat.mod_lt p hW)⟩
  · exact absurd h2 (Nat.not_lt_zero _)
theorem vis_e {W H p : Nat} {tn : Bool} (h : p < W * H) : vis W tn H 0 p := Or.inl (Nat.div_lt_of_lt_mul h)
theorem vis_0 {W p : Nat} {tn : Bool} : ¬ vis W tn 0 0 p := by
  rintro (h | ⟨h1, h2⟩)
  · exact Nat.not_lt_zero _ h
  · exact Nat.not_lt_zero _ h2
theorem dk_lt {W z p : Nat} {S P : Nat → Nat} {tn : Bool} (hz : 0 < z) : dk W S z P tn p < z := near_lt hz
theorem pk_odd {y : Nat} (h : y < 2147483648) : (nI y &&& 1 = 1) = (y % 2 = 1) := by
  rw [pk_andN (by omega) 1 (by decide), li_1, nz_eq (by omega) (by omega)]
theorem sp_CL_holdWithCarry {W H nb z : Nat} {sa he lv ah be wi : Nat → Int32} {S P : Nat → Nat} {tn : Bool} {x1 : Int32} {post : (Nat → Int32) → (Nat → Int32) → (Nat → Int32) → (Nat → Int32) → Prop}
    (hW0 : 0 < W) (hW : W ≤ 24) (hH : H ≤ 24) (hnb : nb = 4 * W) (hz0 : 0 < z) (hz : z ≤ 64) (hP : chs lv z P) (hS : ∀ p, p < W * H → S p < 4294967296 ∧ sa p = nI (S p)) (hx1 : x1 = if tn = true then 1 else 0)
    (h : ∀ he' ah' be' wi', (∀ p, p < W * H → he' p = nI (dk W S z P tn p)) → post he' ah' be' wi') :
    wpCL_holdWithCarry (W * H) (W * H) 256 4 nb 4 (nI W) (nI H) sa he (nI z) lv ah be wi x1 post := by
  subst hnb
  have hN := wh_le hW hH
  unfold wpCL_holdWithCarry
  intro K9 K44 h9 h44
  unfold wpCa_startPicture
  refine sp_Ar_fill (by omega) (fun be0 hbe0 => ?_)
  have l9 : ∀ (d y : Nat) (he ah be wi : Nat → Int32), y + d = H → (∀ p, p < W * H → vis W tn y 0 p → he p = nI (dk W S z P tn p)) → (∀ x, x < W → ∀ c, c < 4 → be (4 * x + c) = drw W S z P tn y x c) → K9 (nI y) he ah be wi := by
    intro d
    induction d with
    | zero =>
      intro y he ah be wi hy hhe hbe
      have : y = H := by omega
      subst this
      apply h9
      unfold vcCL_holdWithCarry_9
      exact ⟨fun _ => h _ _ _ _ (fun p hp => hhe p hp (vis_e hp)), fun q => absurd (nI_le (Nat.le_refl _) (by omega)) q⟩
    | succ d ih =>
      intro y he ah be wi hy hhe hbe
      have l44 : ∀ (s : Int32), (s = if bwd tn y = true then 1 else 0) → ∀ (f i : Nat) (he ah be wi : Nat → Int32), i + f = W → (∀ p, p < W * H → vis W tn y i p → he p = nI (dk W S z P tn p)) → (∀ c, c < 4 → ah c = (dsi W S z P (bwd tn y) y (drw W S z P tn y) i).1 c) → (∀ x, x < W → ∀ c, c < 4 → be (4 * x + c) = (dsi W S z P (bwd tn y) y (drw W S z P tn y) i).2 x c) → K44 (nI y) s (nI i) he ah be wi := by
        intro s hs f
        induction f with
        | zero =>
          intro i he ah be wi hi hhe hah hbe
          have : i = W := by omega
          subst this
          apply h44
          unfold vcCL_holdWithCarry_44
          refine ⟨fun _ => ?_, fun q => absurd (nI_le (Nat.le_refl _) (by omega)) q⟩
          rw [nI_1]
          exact ih (y + 1) _ _ _ _ (by omega) (fun p hp hv => hhe p hp (vis_r hW0 hv)) hbe
        | succ f ihf =>
          intro i he ah be wi hi hhe hah hbe
          have hxl := xps_lt (W := W) (b := bwd tn y) (show i < W by omega)
          have hpl := plc_at (H := H) hxl (show y < H by omega)
          obtain ⟨s1, s2⟩ := hS _ hpl
          have step : vcCL_holdWithCarry_71 (W * H) (W * H) 256 4 (4 * W) 4 (nI W) (nI H) sa (nI z) lv x1 K9 K44 post (nI y) s (nI i) (nI (xps W (bwd tn y) i)) he ah be wi := by
            unfold vcCL_holdWithCarry_71 wpCL_placeOf
            rw [pk_mul, nI_add]
            try dsimp only
            rw [nz_cl (by omega), s2, nI_1]
            refine ⟨vp_in_nI (by omega) (by omega), ?_⟩
            refine sp_Ca_choose (W := W) (w := dws W S (bwd tn y) y i (dsi W S z P (bwd tn y) y (drw W S z P tn y) i)) (by omega) (by omega) hz0 hz hP s1 hxl hah hbe (fun c => rfl) (fun ah' be' wi' e1 e2 => ⟨vp_in_nI (by omega) (by omega), ?_⟩)
            refine ihf (i + 1) _ _ _ _ (by omega) (fun p hp hv => ?_) e1 e2
            rcases vis_s (by omega) hv with hv | hv
            · by_cases e : p = y * W + xps W (bwd tn y) i
              · rw [e, pk_us, dk_at (by omega)]; rfl
              · rw [pk_un e]; exact hhe p hp hv
            · rw [hv, pk_us, dk_at (by omega)]; rfl
          apply h44
          unfold vcCL_holdWithCarry_44
          refine ⟨fun q => absurd q (nI_ge (by omega) (by omega)), fun _ => ⟨fun q => ?_, fun q => ?_⟩⟩
          · have e : bwd tn y = false := by
              rcases hbb : bwd tn y with _ | _
              · rfl
              · rw [hbb, if_pos rfl] at hs
                rw [hs] at q
                exact absurd q n10
            have e2 : xps W (bwd tn y) i = i := by unfold xps; rw [e, if_neg (by decide)]
            rw [e2] at step
            exact step
          · have e : bwd tn y = true := by
              rcases hbb : bwd tn y with _ | _
              · rw [hbb, if_neg (by decide)] at hs
                exact absurd hs q
              · rfl
            have e2 : xps W (bwd tn y) i = W - 1 - i := by unfold xps; rw [e, if_pos rfl]
            rw [e2] at step
            rw [li_1, nz_sub (by omega), nz_sub (by omega)]
            exact step
      have row : ∀ s : Int32, (s = if bwd tn y = true then 1 else 0) → vcCL_holdWithCarry_33 (W * H) (W * H) 256 4 (4 * W) 4 (nI W) (nI H) sa (nI z) lv x1 K9 K44 post (nI y) s he ah be wi := by
        intro s hs
        unfold vcCL_holdWithCarry_33 wpCa_startRow
        refine sp_Ar_fill (by omega) (fun ah0 hah0 => ?_)
        exact l44 s hs W 0 _ _ _ _ (by omega) hhe (fun c hc => hah0 c hc) hbe
      apply h9
      unfold vcCL_holdWithCarry_9 vcCL_holdWithCarry_32
      rw [pk_odd (by omega)]
      refine ⟨fun q => absurd q (nI_ge (by omega) (by omega)), fun _ => ⟨fun q => row 0 ?_, fun q => ⟨fun q2 => row 0 ?_, fun q2 => row 1 ?_⟩⟩⟩
      · have e : tn = false := by
          cases tn
          · rfl
          · rw [if_pos rfl] at hx1
            rw [hx1] at q
            exact absurd q n10
        rw [e]; rfl
      · have e : bwd tn y = false := by
          unfold bwd
          rw [decide_eq_false q2, Bool.and_false]
        rw [e]; rfl
      · have e : tn = true := by
          cases tn
          · exact absurd hx1 q
          · rfl
        have e : bwd tn y = true := by
          unfold bwd
          rw [e, decide_eq_true q2]; rfl
        rw [e]; rfl
  exact l9 H 0 _ _ _ _ (by omega) (fun p hp hv => absurd hv vis_0) (fun x hx c hc => hbe0 _ (by omega))
