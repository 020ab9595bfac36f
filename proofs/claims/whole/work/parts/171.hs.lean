/-! counting -/
def cnt : Nat → (Nat → Bool) → Nat
  | 0, _ => 0
  | n + 1, f => cnt n f + (if f n = true then 1 else 0)
theorem cnt_congr {n : Nat} {f g : Nat → Bool} (h : ∀ i, i < n → f i = g i) : cnt n f = cnt n g := by
  induction n with
  | zero => rfl
  | succ n ih =>
    show cnt n f + _ = cnt n g + _
    rw [ih (fun i hi => h i (by omega)), h n (by omega)]
theorem cnt_up {n i : Nat} (hi : i < n) (f : Nat → Bool) (v : Bool) : cnt n (fun j => if j = i then v else f j) + (if f i = true then 1 else 0) = cnt n f + (if v = true then 1 else 0) := by
  induction n with
  | zero => omega
  | succ n ih =>
    show cnt n (fun j => if j = i then v else f j) + (if (if n = i then v else f n) = true then 1 else 0) + _ = cnt n f + (if f n = true then 1 else 0) + _
    by_cases e : n = i
    · subst e
      rw [cnt_congr (g := f) (fun j hj => if_neg (by omega)), if_pos rfl]
      omega
    · have h2 := ih (by omega)
      rw [if_neg e]
      omega
theorem cnt_le (n : Nat) (f : Nat → Bool) : cnt n f ≤ n := by
  induction n with
  | zero => exact Nat.le_refl _
  | succ n ih =>
    show cnt n f + _ ≤ n + 1
    split <;> omega
theorem cnt_pos {n i : Nat} {f : Nat → Bool} (hi : i < n) (h : f i = true) : 0 < cnt n f := by
  induction n with
  | zero => omega
  | succ n ih =>
    show 0 < cnt n f + _
    by_cases e : i = n
    · subst e
      rw [if_pos h]
      omega
    · have := ih (by omega)
      omega
/-! sorting by a heap, as pure rows: g is f in another order on lo .. hi - 1, and f elsewhere -/
def hs_pm (lo hi : Nat) (f g : Nat → Int64) : Prop :=
  ∃ σ ρ : Nat → Nat, (∀ i, lo ≤ i → i < hi → (lo ≤ σ i ∧ σ i < hi) ∧ (lo ≤ ρ i ∧ ρ i < hi) ∧ σ (ρ i) = i ∧ ρ (σ i) = i ∧ g i = f (σ i)) ∧ (∀ i, (i < lo ∨ hi ≤ i) → g i = f i) ∧ ∀ (K : Nat) (P : Int64 → Bool), hi ≤ K → cnt K (fun i => P (g i)) = cnt K (fun i => P (f i))
theorem hs_pm_rf {lo hi : Nat} {f : Nat → Int64} : hs_pm lo hi f f :=
  ⟨id, id, fun _ h1 h2 => ⟨⟨h1, h2⟩, ⟨h1, h2⟩, rfl, rfl, rfl⟩, fun _ _ => rfl, fun _ _ _ => rfl⟩
theorem hs_pm_tr {lo hi : Nat} {f g h : Nat → Int64} (a : hs_pm lo hi f g) (b : hs_pm lo hi g h) : hs_pm lo hi f h := by
  obtain ⟨σ, ρ, h1, h2, k1⟩ := a
  obtain ⟨σ', ρ', h3, h4, k2⟩ := b
  refine ⟨fun i => σ (σ' i), fun i => ρ' (ρ i), fun i hl hh => ?_, fun i hi => (h4 i hi).trans (h2 i hi), fun K P hK => (k2 K P hK).trans (k1 K P hK)⟩
  obtain ⟨⟨a1, a2⟩, ⟨a3, a4⟩, a5, a6, a7⟩ := h3 i hl hh
  obtain ⟨⟨b1, b2⟩, ⟨b3, b4⟩, b5, b6, b7⟩ := h1 i hl hh
  obtain ⟨⟨c1, c2⟩, ⟨c3, c4⟩, c5, c6, c7⟩ := h1 (σ' i) a1 a2
  obtain ⟨⟨d1, d2⟩, ⟨d3, d4⟩, d5, d6, d7⟩ := h3 (ρ i) b3 b4
  refine ⟨⟨c1, c2⟩, ⟨d3, d4⟩, ?_, ?_, ?_⟩
  · show σ (σ' (ρ' (ρ i))) = i
    rw [d5, b5]
  · show ρ' (ρ (σ (σ' i))) = i
    rw [c6, a6]
  · show h i = f (σ (σ' i))
    rw [a7, c7]
theorem hs_pm_wd {lo hi hi' : Nat} {f g : Nat → Int64} (a : hs_pm lo hi f g) (h : hi ≤ hi') : hs_pm lo hi' f g := by
  obtain ⟨σ, ρ, h1, h2, k1⟩ := a
  refine ⟨fun i => if i < hi then σ i else i, fun i => if i < hi then ρ i else i, fun i hl hh => ?_, fun i hi => h2 i (by omega), fun K P hK => k1 K P (by omega)⟩
  by_cases c : i < hi
  · obtain ⟨⟨b1, b2⟩, ⟨b3, b4⟩, b5, b6, b7⟩ := h1 i hl c
    simp only [if_pos c, if_pos b2, if_pos b4]
    exact ⟨⟨b1, by omega⟩, ⟨b3, by omega⟩, b5, b6, b7⟩
  · have e := h2 i (Or.inr (by omega))
    simp only [if_neg c]
    exact ⟨⟨hl, hh⟩, ⟨hl, hh⟩, trivial, trivial, e⟩
theorem hs_pm_sw {lo hi i j : Nat} (f : Nat → Int64) (h1 : lo ≤ i) (h2 : i < hi) (h3 : lo ≤ j) (h4 : j < hi) : hs_pm lo hi f (vp_updL (vp_updL f i (f j)) j (f i)) := by
  refine ⟨fun k => if k = j then i else if k = i then j else k, fun k => if k = j then i else if k = i then j else k, fun k hl hh => ?_, fun k hk => ?_, fun K P hK => ?_⟩
  · simp only [vp_updL]
    grind
  · simp only [vp_updL]
    grind
  · have a1 := cnt_up (n := K) (i := i) (by omega) (fun q => P (f q)) (P (f j))
    have a2 := cnt_up (n := K) (i := j) (by omega) (fun q => if q = i then P (f j) else P (f q)) (P (f i))
    have e1 : (if j = i then P (f j) else P (f j)) = P (f j) := by split <;> rfl
    try dsimp only at a1 a2
    rw [e1] at a2
    have e2 : (fun q => P (vp_updL (vp_updL f i (f j)) j (f i) q)) = fun q => if q = j then P (f i) else if q = i then P (f j) else P (f q) := by
      funext q
      simp only [vp_updL]
      split
      · rfl
      · split <;> rfl
    rw [e2]
    omega
/-- a heap on 0 .. many - 1, the numbers from a on -/
def hs_hp (f : Nat → Int64) (b a many : Nat) : Prop := ∀ k c, a ≤ k → (c = 2 * k + 1 ∨ c = 2 * k + 2) → c < many → (f (b + c)).toInt ≤ (f (b + k)).toInt
/-- all but the place of a hole, which holds x: and what stands below the hole isn't above what stands over it -/
def hs_iv (f : Nat → Int64) (b root many hole : Nat) (x : Int64) : Prop :=
  root ≤ hole ∧ hole < many ∧
  (∀ k c, root ≤ k → k ≠ hole → (c = 2 * k + 1 ∨ c = 2 * k + 2) → c < many → (vp_updL f (b + hole) x (b + c)).toInt ≤ (vp_updL f (b + hole) x (b + k)).toInt) ∧
  (∀ p c, root ≤ p → (hole = 2 * p + 1 ∨ hole = 2 * p + 2) → (c = 2 * hole + 1 ∨ c = 2 * hole + 2) → c < many → (f (b + c)).toInt ≤ (f (b + p)).toInt)
theorem hs_iv_0 {f : Nat → Int64} {b root many : Nat} (hr : root < many) (h : hs_hp f b (root + 1) many) : hs_iv f b root many root (f (b + root)) := by
  have e : vp_updL f (b + root) (f (b + root)) = f := by
    funext j
    unfold vp_updL
    split
    · next h => rw [h]
    · rfl
  refine ⟨Nat.le_refl _, hr, ?_, ?_⟩
  · intro k c hk hne hc hm
    rw [e]
    exact h k c (by omega) hc hm
  · intro p c hp hh
    omega
theorem hs_iv_end {f : Nat → Int64} {b root many hole : Nat} {x : Int64} (h : hs_iv f b root many hole x) (hc : ∀ c, (c = 2 * hole + 1 ∨ c = 2 * hole + 2) → c < many → (f (b + c)).toInt ≤ x.toInt) : hs_hp (vp_updL f (b + hole) x) b root many := by
  obtain ⟨h1, h2, h3, h4⟩ := h
  intro k c hk hcc hm
  by_cases e : k = hole
  · subst e
    have a := hc c hcc hm
    rw [pk_uLs, pk_uLn (by omega)]
    exact a
  · exact h3 k c hk e hcc hm
theorem hs_iv_step {f : Nat → Int64} {b root many hole d : Nat} {x : Int64} (h : hs_iv f b root many hole x) (hd : d = 2 * hole + 1 ∨ d = 2 * hole + 2) (hm : d < many)
    (hbig : ∀ c, (c = 2 * hole + 1 ∨ c = 2 * hole + 2) → c < many → (f (b + c)).toInt ≤ (f (b + d)).toInt) (hx : x.toInt < (f (b + d)).toInt) :
    hs_iv (vp_updL f (b + hole) (f (b + d))) b root many d x := by
  obtain ⟨h1, h2, h3, h4⟩ := h
  refine ⟨by omega, hm, ?_, ?_⟩
  · intro k c hk hne hc hcm
    have hcd : c = d → k = hole := fun e => by omega
    have a3 := h3 k c hk
    by_cases ek : k = hole
    · subst ek
      rw [pk_uLn (k := b + d) (j := b + k) (by omega), pk_uLs]
      by_cases ec : c = d
      · subst ec
        rw [pk_uLs]
        omega
      · rw [pk_uLn (by omega), pk_uLn (by omega)]
        exact hbig c hc hcm
    · have a3 := a3 ek hc hcm
      have hk2 : ¬ c = d := fun e => ek (hcd e)
      rw [pk_uLn (k := b + d) (j := b + k) (by omega), pk_uLn (k := b + hole) (j := b + k) (by omega), pk_uLn (k := b + d) (j := b + c) (by omega)]
      rw [pk_uLn (k := b + hole) (j := b + k) (by omega)] at a3
      by_cases ec : c = hole
      · subst ec
        rw [pk_uLs]
        exact h4 k d hk hc hd hm
      · rw [pk_uLn (by omega)] at a3 ⊢
        exact a3
  · intro p c hp hpd hc hcm
    have ep : p = hole := by omega
    subst ep
    rw [pk_uLs, pk_uLn (by omega)]
    have a3 := h3 d c (by omega) (by omega) hc hcm
    rw [pk_uLn (by omega), pk_uLn (by omega)] at a3
    exact a3
/-- the root is the greatest -/
theorem hs_top {f : Nat → Int64} {b many : Nat} (h : hs_hp f b 0 many) : ∀ k, k < many → (f (b + k)).toInt ≤ (f b).toInt := by
  intro k
  induction k using Nat.strongRecOn with
  | _ k ih =>
    intro hk
    by_cases e : k = 0
    · subst e
      exact Int.le_refl _
    · have hp : (k - 1) / 2 < k := by omega
      have a := h ((k - 1) / 2) k (Nat.zero_le _) (by omega) hk
      have b2 := ih ((k - 1) / 2) hp (by omega)
      omega
/-- what the second loop keeps: a heap in front, behind it the greatest in order -/
def hs_jv (f : Nat → Int64) (b last many : Nat) : Prop :=
  hs_hp f b 0 (last + 1) ∧ ∀ i j, i < j → last < j → j < many → (f (b + i)).toInt ≤ (f (b + j)).toInt
theorem hs_two (n : Nat) : (2 : Int32) * nI n + 1 = nI (2 * n + 1) := by
  have h : (2 : Int32) = nI 2 := rfl
  rw [h, pk_mul, nI_1]
theorem hs_m1 (x : Int32) : x + (-1) = x - 1 := (Int32.sub_eq_add_neg x 1).symm
set_option maxHeartbeats 1000000 in
theorem sp_sink {n : Nat} {f : Nat → Int64} {b root many : Nat} {post : (Nat → Int64) → Prop} (hn : n < 2 ^ 31) (hb : b + many ≤ n) (hs : many < 2 ^ 29) (hr : root < many) (hh : hs_hp f b (root + 1) many)
    (hp : ∀ g, hs_pm b (b + many) f g → hs_hp g b root many → post g) : wpCL_sink n f (nI b) (nI root) (nI many) post := by
  unfold wpCL_sink
  intro K hK
  have ein : ∀ d, d < many → vp_in (nI b + nI d) n := fun d hd => by rw [nI_add]; exact vp_in_nI (by omega) hn
  have ecl : ∀ d, d < many → (nI b + nI d).toNatClampNeg = b + d := fun d hd => by rw [nI_add]; exact nI_clamp (by omega)
  refine ⟨ein root hr, ?_⟩
  intro x hx c hc
  rw [ecl root hr] at hx
  rw [hs_two] at hc
  subst hc
  have loop : ∀ (fu hole : Nat) (g : Nat → Int64), many - hole < fu → hs_pm b (b + many) f (vp_updL g (b + hole) x) → hs_iv g b root many hole x → K x (nI hole) (nI (2 * hole + 1)) g := by
    intro fu
    induction fu with
    | zero => intro hole g h; omega
    | succ fu ih =>
      intro hole g hfu hpm hiv
      have hle := hiv.1
      have hlt := hiv.2.1
      have h94 : (∀ c, (c = 2 * hole + 1 ∨ c = 2 * hole + 2) → c < many → (g (b + c)).toInt ≤ x.toInt) → vcCL_sink_94 n (nI b) (nI root) (nI many) K post x (nI hole) g := by
        intro h
        unfold vcCL_sink_94
        refine ⟨ein hole hlt, ?_⟩
        rw [ecl hole hlt]
        exact hp _ hpm (hs_iv_end hiv h)
      have h52 : ∀ d, (d = 2 * hole + 1 ∨ d = 2 * hole + 2) → d < many → (∀ c, (c = 2 * hole + 1 ∨ c = 2 * hole + 2) → c < many → (g (b + c)).toInt ≤ (g (b + d)).toInt) → vcCL_sink_52 n (nI b) (nI root) (nI many) K post x (nI hole) (nI d) g := by
        intro d hd hdm hbig
        unfold vcCL_sink_52
        refine ⟨ein d hdm, ?_, ?_⟩
        · intro hcmp
          rw [ecl d hdm, lg_cmp_gt, Int64.lt_iff_toInt_lt] at hcmp
          refine ⟨ein d hdm, ein hole hlt, ?_⟩
          intro c hc
          rw [hs_two] at hc
          subst hc
          rw [ecl d hdm, ecl hole hlt]
          refine ih d _ (by omega) ?_ (hs_iv_step hiv hd hdm hbig hcmp)
          refine hs_pm_tr hpm ?_
          have e : vp_updL (vp_updL g (b + hole) (g (b + d))) (b + d) x = vp_updL (vp_updL (vp_updL g (b + hole) x) (b + hole) ((vp_updL g (b + hole) x) (b + d))) (b + d) ((vp_updL g (b + hole) x) (b + hole)) := by
            rw [pk_uLs, pk_uLn (by omega)]
            funext j
            simp only [vp_updL]
            split <;> try rfl
            split <;> rfl
          rw [e]
          exact hs_pm_sw _ (by omega) (by omega) (by omega) (by omega)
        · intro hcmp
          rw [ecl d hdm, lg_cmp_gt, Int64.lt_iff_toInt_lt] at hcmp
          refine h94 (fun c hc hcm => ?_)
          have := hbig c hc hcm
          omega
      apply hK
      unfold vcCL_sink_17
      refine ⟨fun h => ?_, fun h => ⟨fun h1 => ?_, fun h1 => ?_⟩⟩
      · have hm := (nI_leI (by omega) (by omega)).mp h
        exact h94 (fun c hc hcm => by omega)
      · have hm : 2 * hole + 1 < many := by
          rcases Nat.lt_or_ge (2 * hole + 1) many with q | q
          · exact q
          · exact absurd (nI_le q (by omega)) h
        rw [nI_1] at h1
        have hm1 := (nI_leI (by omega) (by omega)).mp h1
        refine h52 (2 * hole + 1) (Or.inl rfl) hm (fun c hc hcm => ?_)
        have : c = 2 * hole + 1 := by omega
        subst this
        exact Int.le_refl _
      · rw [nI_1] at h1
        have hm : 2 * hole + 1 + 1 < many := by
          rcases Nat.lt_or_ge (2 * hole + 1 + 1) many with q | q
          · exact q
          · exact absurd (nI_le q (by omega)) h1
        have e2 : nI b + nI (2 * hole + 1) + 1 = nI b + nI (2 * hole + 2) := by rw [nI_add, nI_1, nI_add]; rfl
        rw [e2]
        refine ⟨ein _ (by omega), ein _ (by omega), fun h2 => ?_, fun h2 => ?_⟩
        · rw [ecl _ (by omega), ecl _ (by omega), lg_cmp_ge, Int64.le_iff_toInt_le] at h2
          refine h52 (2 * hole + 1) (Or.inl rfl) (by omega) (fun c hc hcm => ?_)
          rcases hc with rfl | rfl
          · exact Int.le_refl _
          · exact h2
        · rw [ecl _ (by omega), ecl _ (by omega), lg_cmp_ge, Int64.le_iff_toInt_le] at h2
          rw [nI_1]
          refine h52 (2 * hole + 1 + 1) (Or.inr rfl) hm (fun c hc hcm => ?_)
          rcases hc with rfl | rfl
          · show (g (b + (2 * hole + 1))).toInt ≤ (g (b + (2 * hole + 2))).toInt
            omega
          · exact Int.le_refl _
  have e0 : vp_updL f (b + root) x = f := by
    funext j
    unfold vp_updL
    split
    · next h => rw [h, hx]
    · rfl
  refine loop (many + 1) root f (by omega) ?_ ?_
  · rw [e0]
    exact hs_pm_rf
  · rw [hx]
    exact hs_iv_0 hr hh
set_option maxHeartbeats 1000000 in
theorem sp_sortKeys {n : Nat} {f : Nat → Int64} {b e : Nat} {post : (Nat → Int64) → Prop} (hn : n < 2 ^ 31) (hbe : b ≤ e) (he : e ≤ n) (hs : e - b < 2 ^ 29)
    (hp : ∀ g, hs_pm b e f g → (∀ i j, b ≤ i → i < j → j < e → (g i).toInt ≤ (g j).toInt) → post g) : wpCL_sortKeys n f (nI b) (nI e) post := by
  obtain ⟨many, hmany⟩ : ∃ m, m = e - b := ⟨_, rfl⟩
  have hem : e = b + many := by omega
  unfold wpCL_sortKeys
  intro K11 K35 h11 h35 v3 hv3
  rw [pk_sub hbe, ← hmany] at hv3
  subst hv3
  refine ⟨by decide, ?_⟩
  intro v4 hv4
  have h2 : (2 : Int32) = nI 2 := rfl
  rw [h2, pk_div (by omega) (by omega) (by omega)] at hv4
  subst hv4
  have loop2 : ∀ (last : Nat) (g : Nat → Int64), last < many → hs_pm b e f g → hs_jv g b last many → K35 (nI last) g := by
    intro last
    induction last with
    | zero =>
      intro g hl hpm hj
      apply h35
      unfold vcCL_sortKeys_35
      refine ⟨fun _ => ?_, fun h => absurd (nI_le (Nat.le_refl 0) (by decide)) h⟩
      refine hp g hpm (fun i j hi hij hj2 => ?_)
      have := hj.2 (i - b) (j - b) (by omega) (by omega) (by omega)
      rw [show b + (i - b) = i by omega, show b + (j - b) = j by omega] at this
      exact this
    | succ last ih =>
      intro g hl hpm hj
      apply h35
      unfold vcCL_sortKeys_35
      refine ⟨fun h => absurd h (nI_nle (by omega) (by omega)), fun _ => ?_⟩
      have i0 : vp_in (nI b) n := vp_in_nI (by omega) hn
      have i1 : vp_in (nI b + nI (last + 1)) n := by rw [nI_add]; exact vp_in_nI (by omega) hn
      have c0 : (nI b).toNatClampNeg = b := nI_clamp (by omega)
      have c1 : (nI b + nI (last + 1)).toNatClampNeg = b + (last + 1) := by rw [nI_add]; exact nI_clamp (by omega)
      refine ⟨i0, ?_⟩
      intro v5 hv5
      rw [c0] at hv5
      subst hv5
      refine ⟨i1, i0, i1, ?_⟩
      rw [c0, c1]
      have hsw := hs_pm_sw (lo := b) (hi := e) g (Nat.le_refl b) (by omega) (show b ≤ b + (last + 1) by omega) (by omega)
      generalize hg' : vp_updL (vp_updL g b (g (b + (last + 1)))) (b + (last + 1)) (g b) = g' at hsw ⊢
      have v0 : g' b = g (b + (last + 1)) := by rw [← hg', pk_uLn (by omega), pk_uLs]
      have v1 : g' (b + (last + 1)) = g b := by rw [← hg', pk_uLs]
      have v2 : ∀ k, k ≠ b → k ≠ b + (last + 1) → g' k = g k := fun k h1 h2 => by rw [← hg', pk_uLn h2, pk_uLn h1]
      have htop := hs_top hj.1
      rw [show (0 : Int32) = nI 0 from rfl]
      refine sp_sink (root := 0) (many := last + 1) hn (by omega) (by omega) (by omega) ?_ ?_
      · intro k c hk hc hcm
        rw [v2 (b + c) (by omega) (by omega), v2 (b + k) (by omega) (by omega)]
        exact hj.1 k c (Nat.zero_le _) hc (by omega)
      · intro g2 hp2 hh2
        rw [show nI (last + 1) + (-1) = nI last from pk_m1 last]
        refine ih g2 (by omega) ?_ ⟨hh2, ?_⟩
        · exact hs_pm_tr hpm (hs_pm_tr hsw (hs_pm_wd hp2 (by omega)))
        · obtain ⟨σ, ρ, a1, a2, -⟩ := hp2
          have out : ∀ j, last + 1 ≤ j → g2 (b + j) = g' (b + j) := fun j hj => a2 (b + j) (by omega)
          have val : ∀ i, i ≤ last → ∃ m, m ≤ last + 1 ∧ g2 (b + i) = g (b + m) := by
            intro i hi
            obtain ⟨⟨b1, b2⟩, -, -, -, b5⟩ := a1 (b + i) (by omega) (by omega)
            by_cases e0 : σ (b + i) = b
            · refine ⟨last + 1, Nat.le_refl _, ?_⟩
              rw [b5, e0, v0]
            · refine ⟨σ (b + i) - b, by omega, ?_⟩
              rw [b5, show b + (σ (b + i) - b) = σ (b + i) by omega]
              exact v2 _ e0 (by omega)
          intro i j hij hlj hjm
          rw [out j (by omega)]
          by_cases ej : j = last + 1
          · subst ej
            obtain ⟨m, hm, e1⟩ := val i (by omega)
            rw [e1, v1]
            exact htop m (by omega)
          · rw [v2 (b + j) (by omega) (by omega)]
            by_cases ei : i ≤ last
            · obtain ⟨m, hm, e1⟩ := val i ei
              rw [e1]
              exact hj.2 m j (by omega) (by omega) hjm
            · rw [out i (by omega)]
              by_cases ei2 : i = last + 1
              · subst ei2
                rw [v1]
                have := hj.2 0 j (by omega) (by omega) hjm
                exact this
              · rw [v2 (b + i) (by omega) (by omega)]
                exact hj.2 i j hij (by omega) hjm
  have loop1 : ∀ (k : Nat) (g : Nat → Int64), k ≤ many / 2 → hs_pm b e f g → hs_hp g b k many → K11 (nI many) (nI k - 1) g := by
    intro k
    induction k with
    | zero =>
      intro g hk hpm hh
      apply h11
      unfold vcCL_sortKeys_11
      refine ⟨fun _ => ?_, fun h => absurd (by decide) h⟩
      intro v4 hv4
      subst hv4
      by_cases h0 : many = 0
      · subst h0
        apply h35
        unfold vcCL_sortKeys_35
        refine ⟨fun _ => hp g hpm (fun i j hi hij hj => by omega), fun h => absurd (by decide) h⟩
      · obtain ⟨last, rfl⟩ : ∃ q, many = q + 1 := ⟨many - 1, by omega⟩
        rw [nI_pred]
        exact loop2 last g (by omega) hpm ⟨hh, fun i j h1 h2 h3 => by omega⟩
    | succ k ih =>
      intro g hk hpm hh
      apply h11
      unfold vcCL_sortKeys_11
      rw [nI_pred]
      refine ⟨fun h => absurd h (nI_pos (by omega)), fun _ => ?_⟩
      refine sp_sink hn (by omega) (by omega) (by omega) hh (fun g2 hp2 hh2 => ?_)
      rw [hs_m1]
      exact ih g2 (by omega) (hs_pm_tr hpm (by rw [hem]; exact hp2)) hh2
  exact loop1 (many / 2) f (Nat.le_refl _) hs_pm_rf (fun k c hk hc hcm => by omega)
