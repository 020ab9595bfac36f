/-! the model joins: its groups keep their numbers, e j is the number of the j-th that is there -/
theorem nz_em1 {a : Nat} (h : a < 2147483648) : (nI a = -nI 1) = False := by
  refine eq_false (fun q => ?_)
  have := congrArg Int32.toInt q
  rw [nI_toInt (by omega)] at this
  have e : (-nI 1 : Int32).toInt = -1 := rfl
  omega
theorem vnb0 : vp_nar .boolean 0 = 0 := rfl
theorem vnb1 : vp_nar .boolean 1 = 1 := rfl
def enm (z : Nat) (e : Nat → Nat) (n : Nat) (th : Nat → Int32) : Prop := (∀ i j, i < j → j < z → e i < e j) ∧ (∀ j, j < z → e j < n) ∧ ∀ g, g < n → (th g ≠ 0 ↔ ∃ j, j < z ∧ e j = g)
theorem enm_inj {z n i j : Nat} {e : Nat → Nat} {th : Nat → Int32} (h : enm z e n th) (hi : i < z) (hj : j < z) (q : e i = e j) : i = j := by
  rcases Nat.lt_trichotomy i j with c | c | c
  · have := h.1 i j c hj; omega
  · exact c
  · have := h.1 j i c hi; omega
/-- r of those that are there lie below g -/
def rnk (z : Nat) (e : Nat → Nat) (g r : Nat) : Prop := r ≤ z ∧ ∀ j, j < z → (e j < g ↔ j < r)
theorem rnk_y {z n g r : Nat} {e : Nat → Nat} {th : Nat → Int32} (h : enm z e n th) (hr : rnk z e g r) (hg : g < n) (ht : th g ≠ 0) : r < z ∧ e r = g ∧ rnk z e (g + 1) (r + 1) := by
  obtain ⟨j, j1, j2⟩ := (h.2.2 g hg).mp ht
  have a1 := hr.2 j j1
  have hj : j = r := by
    rcases Nat.lt_trichotomy j r with c | c | c
    · omega
    · exact c
    · have := h.1 r j c j1
      have := hr.2 r (by omega)
      omega
  subst hj
  refine ⟨j1, j2, by omega, fun i hi => ?_⟩
  have := hr.2 i hi
  rcases Nat.lt_trichotomy i j with c | c | c
  · omega
  · subst c; omega
  · have := h.1 j i c hi
    omega
theorem rnk_n {z n g r : Nat} {e : Nat → Nat} {th : Nat → Int32} (h : enm z e n th) (hr : rnk z e g r) (hg : g < n) (ht : th g = 0) : rnk z e (g + 1) r := by
  refine ⟨hr.1, fun j hj => ?_⟩
  have := hr.2 j hj
  have : e j ≠ g := fun q => (h.2.2 g hg).mpr ⟨j, hj, q⟩ ht
  omega
theorem rnk_end {z n r : Nat} {e : Nat → Nat} {th : Nat → Int32} (h : enm z e n th) (hr : rnk z e n r) : r = z := by
  rcases Nat.lt_or_ge r z with c | c
  · have a1 := hr.2 r c
    have a2 := h.2.1 r c
    omega
  · have := hr.1; omega
theorem rnk_0 {z : Nat} {e : Nat → Nat} : rnk z e 0 0 := ⟨Nat.zero_le _, fun j _ => by omega⟩
def mjOK (D : Nat) (C M : Nat → Nat) (z : Nat) (G e : Nat → Nat) (n : Nat) (gr th : Nat → Int32) (gm : Nat → Int64) (me : Nat → Int32) : Prop :=
  enm z e n th ∧ (∀ k, k < D → gr k = nI (e (G k))) ∧ ∀ j, j < z → gm (e j) = lN (sm D (pb G j) M) ∧ chA me (4 * e j) (mcol D C M (pb G j))
theorem sp_Md_joinOne {nc nm ng nt nq ne D z n : Nat} {a1 a2 a3 a4 a5 a6 a7 : Int32} {cs ms gr th me : Nat → Int32} {gm su : Nat → Int64} {C M G e : Nat → Nat} {post : (Nat → Int32) → (Nat → Int32) → (Nat → Int64) → (Nat → Int32) → (Nat → Int64) → Prop}
    (hnc : nc < 2147483648) (hnm : nm < 2147483648) (hng : ng < 2147483648) (hnt : nt < 2147483648) (hnq : nq < 2147483648) (hne : ne < 2147483648) (hD : D ≤ 576) (hD1 : 4 * D ≤ nc) (hD2 : D ≤ nm) (hD3 : D ≤ ng) (hn : n ≤ 40) (hn1 : n ≤ nt) (hn2 : n ≤ nq) (hn3 : 4 * n ≤ ne)
    (hC : chs cs D C) (hM : ∀ k, k < D → ms k = nI (M k)) (hM0 : ∀ k, k < D → 0 < M k) (hMt : tot D M ≤ 576) (hz : 2 ≤ z) (hz2 : z ≤ 40) (hf : fil D G z) (hmj : mjOK D C M z G e n gr th gm me)
    (h : ∀ gr' th' gm' me' su' e', mjOK D C M (z - 1) (jnG G (jbest z (jcost D C M G) / 64) (jbest z (jcost D C M G) % 64)) e' n gr' th' gm' me' → post gr' th' gm' me' su') :
    wpMd_joinOne nc nm ng nt nq ne 4 a1 a2 a3 (nI D) (nI n) a4 a5 a6 a7 cs ms gr th gm me su post := by
  obtain ⟨hen, hgr, hgm⟩ := hmj
  unfold wpMd_joinOne
  intro K9 K24 K142 h9 h24 h142
  have hW : ∀ j, j < z → 0 < sm D (pb G j) M ∧ sm D (pb G j) M ≤ 576 := fun j hj => fil_W hf hM0 hMt hj
  have hjb := jbest_ok hz hz2 (jcost_01 (C := C) hf hM0 hMt hz)
  generalize hff : jf z (jcost D C M G) = f
  have hat : ∀ a b, a < b → b < z → f (a * 64 + b) = jcost D C M G a b := fun a b q1 q2 => by rw [← hff]; exact jf_at q1 q2 (by omega)
  have hno : ∀ i, ¬ (i / 64 < i % 64 ∧ i % 64 < z) → f i = 1099511627776 := fun i q => by rw [← hff]; exact jf_no q
  have hcb : ∀ a b, a < z → b < z → jcost D C M G a b < 1099511627776 := fun a b q1 q2 => cst_big (hW a q1).2 (hW b q2).2
  -- after the search
  have fin : ∀ a b, jbest z (jcost D C M G) / 64 = a → jbest z (jcost D C M G) % 64 = b → ∀ (d k : Nat) (gr' : Nat → Int32), k + d = D → (∀ j, j < D → gr' j = if j < k ∧ G j = b then nI (e a) else nI (e (G j))) → K142 (nI (e a)) (nI (e b)) (nI k) gr' th gm me su := by
    intro a b ea eb d
    rw [ea, eb] at h hjb
    have hab := hjb.1
    have hbz := hjb.2
    have l1 := hen.2.1 a (by omega)
    have l2 := hen.2.1 b hbz
    induction d with
    | zero =>
      intro k gr' hk hgr'
      have : k = D := by omega
      subst this
      apply h142
      unfold vcMd_joinOne_142
      refine ⟨fun _ => ⟨vp_in_nI (by omega) (by omega), ?_⟩, fun q => absurd (nI_le (Nat.le_refl _) (by omega)) q⟩
      have hG'e : ∀ j, j < k → gr' j = nI ((fun i => if i < b then e i else e (i + 1)) (jnG G a b j)) := by
        intro j hj
        rw [hgr' j hj]
        try dsimp only
        unfold jnG
        by_cases c : G j = b
        · rw [if_pos ⟨hj, c⟩, if_pos c, if_pos hab]
        · rw [if_neg (by omega), if_neg c]
          by_cases c2 : b < G j
          · rw [if_pos c2, if_neg (by omega), show G j - 1 + 1 = G j by omega]
          · rw [if_neg c2, if_pos (by omega)]
      have hfil := jnG_fil hf hab hbz
      have inj : ∀ i, i < z - 1 → ((if i < b then e i else e (i + 1)) = e a ↔ i = a) := by
        intro i hi
        by_cases c : i < b
        · rw [if_pos c]
          exact ⟨fun q => enm_inj hen (by omega) (by omega) q, fun q => by rw [q]⟩
        · rw [if_neg c]
          constructor
          · intro q
            have := enm_inj hen (show i + 1 < z by omega) (show a < z by omega) q
            omega
          · intro q; omega
      have hpbe : ∀ j, j < k → pb (fun j => (fun i => if i < b then e i else e (i + 1)) (jnG G a b j)) (e a) j = pb (jnG G a b) a j := fun j hj => decide_eq_decide.mpr (inj _ (hfil.1 j hj))
      refine sp_Md_findMean (D := k) (C := C) (M := M) (G := fun j => (fun i => if i < b then e i else e (i + 1)) (jnG G a b j)) hnc hnm hng hnq hne hD hD1 hD2 hD3 (by omega) (by omega) (by omega) hC hM hMt (fun j hj => ⟨?_, hG'e j hj⟩) ?_ (fun su' => ?_)
      · have := hfil.1 j hj
        try dsimp only
        split
        · have := hen.2.1 (jnG G a b j) (by omega); omega
        · have := hen.2.1 (jnG G a b j + 1) (by omega); omega
      · rw [sm_congr hpbe (fun _ _ _ => rfl), jnG_sm hab]
        have := hW a (by omega)
        omega
      · rw [sm_congr hpbe (fun _ _ _ => rfl), mcol_cg hpbe, nz_cl (by omega), vnb0]
        refine h _ _ _ _ _ (fun i => if i < b then e i else e (i + 1)) ⟨⟨fun i j hij hj => ?_, fun j hj => ?_, fun g hg => ?_⟩, hG'e, fun j hj => ?_⟩
        · try dsimp only
          by_cases c : i < b
          · rw [if_pos c]
            by_cases c2 : j < b
            · rw [if_pos c2]; exact hen.1 i j hij (by omega)
            · rw [if_neg c2]; exact hen.1 i (j + 1) (by omega) (by omega)
          · rw [if_neg c, if_neg (by omega)]; exact hen.1 (i + 1) (j + 1) (by omega) (by omega)
        · try dsimp only
          split
          · exact hen.2.1 j (by omega)
          · exact hen.2.1 (j + 1) (by omega)
        · simp only [upd]
          by_cases c : g = e b
          · rw [if_pos c]
            refine ⟨fun q => absurd rfl q, fun ⟨j, j1, j2⟩ => ?_⟩
            exfalso
            by_cases c2 : j < b
            · rw [if_pos c2, c] at j2
              have := enm_inj hen (by omega) hbz j2
              omega
            · rw [if_neg c2, c] at j2
              have := enm_inj hen (by omega) hbz j2
              omega
          · rw [if_neg c, hen.2.2 g hg]
            constructor
            · rintro ⟨j, j1, j2⟩
              by_cases c2 : j < b
              · exact ⟨j, by omega, by rw [if_pos c2]; exact j2⟩
              · have : j ≠ b := fun q => c (by rw [← j2, q])
                exact ⟨j - 1, by omega, by rw [if_neg (by omega), show j - 1 + 1 = j by omega]; exact j2⟩
            · rintro ⟨j, j1, j2⟩
              by_cases c2 : j < b
              · rw [if_pos c2] at j2
                exact ⟨j, by omega, j2⟩
              · rw [if_neg c2] at j2
                exact ⟨j + 1, by omega, j2⟩
        · try dsimp only
          by_cases c : j = a
          · rw [c, if_pos hab]
            exact ⟨pk_uLs, fun x hx => setc_in hx⟩
          · have hne2 : (if j < b then e j else e (j + 1)) ≠ e a := fun q => c ((inj j hj).mp q)
            have hsh : (if j < b then e j else e (j + 1)) = e (if j < b then j else j + 1) := by split <;> rfl
            have hg2 := hgm (if j < b then j else j + 1) (by split <;> omega)
            rw [hsh] at hne2 ⊢
            rw [pk_uLn hne2, sm_congr (jnG_o hab c) (fun _ _ _ => rfl), mcol_cg (jnG_o hab c)]
            refine ⟨hg2.1, fun x hx => ?_⟩
            rw [setc_out (by omega)]
            exact hg2.2 x hx
    | succ d ih =>
      intro k gr' hk hgr'
      have hGk := hf.1 k (by omega)
      have hek := hen.2.1 (G k) hGk
      have hgk := hgr' k (by omega)
      rw [if_neg (by omega)] at hgk
      apply h142
      unfold vcMd_joinOne_142 vcMd_joinOne_179
      simp (disch := omega) only [li_0, li_1, li_2, li_3, li_4, li_8, li_16, li_20, li_24, li_40, li_63, li_64, li_255, li_256, li_576, nI_add, pk_mul, nz_neg, nz_sub, nz_cl, nz_le, nz_lt, nz_eq, nz_in, nz_div, true_and, forall_eq, hgk]
      refine ⟨fun q => by omega, fun _ => ⟨fun q => ih (k + 1) _ (by omega) (fun j hj => ?_), fun q => ih (k + 1) _ (by omega) (fun j hj => ?_)⟩⟩
      · simp only [upd]
        by_cases c : j = k
        · rw [if_pos c, c, if_neg (fun q2 => q (by rw [q2.2]))]
        · rw [if_neg c, hgr' j hj]
          by_cases c2 : j < k ∧ G j = b
          · rw [if_pos c2, if_pos (by omega)]
          · rw [if_neg c2, if_neg (by omega)]
      · simp only [upd]
        by_cases c : j = k
        · rw [if_pos c, c, if_pos ⟨by omega, enm_inj hen hGk hbz q⟩]
        · rw [if_neg c, hgr' j hj]
          by_cases c2 : j < k ∧ G j = b
          · rw [if_pos c2, if_pos (by omega)]
          · rw [if_neg c2, if_neg (by omega)]
  have outer : ∀ (d g r : Nat), g + d = n → rnk z e g r → (jno f (r * 64 + r + 1) → K9 (-nI 1) (-nI 1) (lN 0) (nI g) gr th gm me su) ∧ (∀ best, jso f (r * 64 + r + 1) best → K9 (nI (e (best / 64))) (nI (e (best % 64))) (lN (f best)) (nI g) gr th gm me su) := by
    intro d
    induction d with
    | zero =>
      intro g r hg hr
      have : g = n := by omega
      subst this
      have hrz := rnk_end hen hr
      subst hrz
      refine ⟨fun q => ?_, fun best q => ?_⟩
      · exfalso
        have e1 := q 1 (by omega)
        have e2 := hat 0 1 (by omega) (by omega)
        have e3 := hcb 0 1 (by omega) (by omega)
        rw [show 0 * 64 + 1 = 1 by omega] at e2
        omega
      · apply h9
        unfold vcMd_joinOne_9
        refine ⟨fun _ => ?_, fun q => absurd (nI_le (Nat.le_refl _) (by omega)) q⟩
        have e1 : jbest r (jcost D C M G) = best := jbest_of (by rw [hff]; exact q) (by omega) (by omega)
        exact fin _ _ (by rw [e1]) (by rw [e1]) D 0 gr (by omega) (fun j hj => by rw [if_neg (by omega)]; exact hgr j hj)
    | succ d ih =>
      intro g r hg hr
      -- a group that isn't there: the inner loop does nothing
      have skip : ∀ (t h : Nat) (v1 v2 : Int32) (v3 : Int64), h + t = n → th g = 0 → K9 v1 v2 v3 (nI (g + 1)) gr th gm me su → K24 v1 v2 v3 (nI g) (nI h) gr th gm me su := by
        intro t
        induction t with
        | zero =>
          intro h v1 v2 v3 hh ht hk
          apply h24
          have : h = n := by omega
          subst this
          unfold vcMd_joinOne_24
          simp (disch := omega) only [li_0, li_1, li_2, li_3, li_4, li_8, li_16, li_20, li_24, li_40, li_63, li_64, li_255, li_256, li_576, nI_add, pk_mul, nz_neg, nz_sub, nz_cl, nz_le, nz_lt, nz_eq, nz_in, nz_div, true_and, forall_eq]
          exact ⟨fun _ => hk, fun q => absurd (Nat.le_refl _) q⟩
        | succ t iht =>
          intro h v1 v2 v3 hh ht hk
          apply h24
          unfold vcMd_joinOne_24 vcMd_joinOne_127
          rw [nz_cl (by omega)]
          refine ⟨fun q => absurd q (nI_ge (by omega) (by omega)), fun _ => ⟨vp_in_nI (by omega) (by omega), fun _ => ?_, fun q => absurd ht q⟩⟩
          rw [nI_1]
          exact iht (h + 1) v1 v2 v3 (by omega) ht hk
      by_cases ht : th g = 0
      · obtain ⟨ih1, ih2⟩ := ih (g + 1) r (by omega) (rnk_n hen hr (by omega) ht)
        refine ⟨fun q => ?_, fun best q => ?_⟩
        · apply h9
          unfold vcMd_joinOne_9
          refine ⟨fun q => absurd q (nI_ge (by omega) (by omega)), fun _ => ?_⟩
          simp (disch := omega) only [li_0, li_1, li_2, li_3, li_4, li_8, li_16, li_20, li_24, li_40, li_63, li_64, li_255, li_256, li_576, nI_add, pk_mul, nz_neg, nz_sub, nz_cl, nz_le, nz_lt, nz_eq, nz_in, nz_div, true_and, forall_eq]
          exact skip (n - (g + 1)) (g + 1) _ _ _ (by omega) ht (ih1 q)
        · apply h9
          unfold vcMd_joinOne_9
          refine ⟨fun q => absurd q (nI_ge (by omega) (by omega)), fun _ => ?_⟩
          simp (disch := omega) only [li_0, li_1, li_2, li_3, li_4, li_8, li_16, li_20, li_24, li_40, li_63, li_64, li_255, li_256, li_576, nI_add, pk_mul, nz_neg, nz_sub, nz_cl, nz_le, nz_lt, nz_eq, nz_in, nz_div, true_and, forall_eq]
          exact skip (n - (g + 1)) (g + 1) _ _ _ (by omega) ht (ih2 best q)
      · obtain ⟨r1, r2, r3⟩ := rnk_y hen hr (by omega) ht
        obtain ⟨ih1, ih2⟩ := ih (g + 1) (r + 1) (by omega) r3
        have inner : ∀ (t h s : Nat), h + t = n → g < h → r < s → rnk z e h s → (jno f (r * 64 + s) → K24 (-nI 1) (-nI 1) (lN 0) (nI g) (nI h) gr th gm me su) ∧ (∀ best, jso f (r * 64 + s) best → K24 (nI (e (best / 64))) (nI (e (best % 64))) (lN (f best)) (nI g) (nI h) gr th gm me su) := by
          intro t
          induction t with
          | zero =>
            intro h s hh hgh hrs hs
            have : h = n := by omega
            subst this
            have hsz := rnk_end hen hs
            subst hsz
            have hx : ∀ j, r * 64 + s ≤ j → j < (r + 1) * 64 + (r + 1) + 1 → f j = 1099511627776 := fun j j1 j2 => hno j (by omega)
            refine ⟨fun q => ?_, fun best q => ?_⟩
            · apply h24
              unfold vcMd_joinOne_24
              simp (disch := omega) only [li_0, li_1, li_2, li_3, li_4, li_8, li_16, li_20, li_24, li_40, li_63, li_64, li_255, li_256, li_576, nI_add, pk_mul, nz_neg, nz_sub, nz_cl, nz_le, nz_lt, nz_eq, nz_in, nz_div, true_and, forall_eq]
              exact ⟨fun _ => ih1 (jno_x q hx), fun q => absurd (Nat.le_refl _) q⟩
            · apply h24
              unfold vcMd_joinOne_24
              simp (disch := omega) only [li_0, li_1, li_2, li_3, li_4, li_8, li_16, li_20, li_24, li_40, li_63, li_64, li_255, li_256, li_576, nI_add, pk_mul, nz_neg, nz_sub, nz_cl, nz_le, nz_lt, nz_eq, nz_in, nz_div, true_and, forall_eq]
              exact ⟨fun _ => ih2 best (jso_x q (by omega) hx), fun q => absurd (Nat.le_refl _) q⟩
          | succ t iht =>
            intro h s hh hgh hrs hs
            by_cases hth : th h = 0
            · obtain ⟨it1, it2⟩ := iht (h + 1) s (by omega) (by omega) hrs (rnk_n hen hs (by omega) hth)
              have go : ∀ v1 v2 v3, K24 v1 v2 v3 (nI g) (nI (h + 1)) gr th gm me su → K24 v1 v2 v3 (nI g) (nI h) gr th gm me su := by
                intro v1 v2 v3 hk
                apply h24
                unfold vcMd_joinOne_24 vcMd_joinOne_127
                rw [nz_cl (a := g) (by omega), nz_cl (a := h) (by omega)]
                refine ⟨fun q => absurd q (nI_ge (by omega) (by omega)), fun _ => ⟨vp_in_nI (by omega) (by omega), fun q => absurd q ht, fun _ => ⟨vp_in_nI (by omega) (by omega), fun _ => ?_, fun q => absurd hth q⟩⟩⟩
                rw [nI_1]
                exact hk
              exact ⟨fun q => go _ _ _ (it1 q), fun best q => go _ _ _ (it2 best q)⟩
            · obtain ⟨s1, s2, s3⟩ := rnk_y hen hs (by omega) hth
              obtain ⟨it1, it2⟩ := iht (h + 1) (s + 1) (by omega) (by omega) (by omega) s3
              have hc := hat r s hrs s1
              have hc1 : f (r * 64 + s) < 1099511627776 := by rw [hc]; exact hcb r s r1 s1
              have hc2 := hcb r s r1 s1
              obtain ⟨g1, g2⟩ := hgm r r1
              obtain ⟨g3, g4⟩ := hgm s s1
              rw [r2] at g1 g2
              rw [s2] at g3 g4
              have hw1 := hW r r1
              have hw2 := hW s s1
              have hl := cst_lt (Mc := fun j => mcol D C M (pb G j)) (W := fun j => sm D (pb G j) M) hw1.2 hw2.2
              have hjc : jcost D C M G r s = sm D (pb G r) M * sm D (pb G s) M * far (mcol D C M (pb G r)) (mcol D C M (pb G s)) / (sm D (pb G r) M + sm D (pb G s) M) := rfl
              try dsimp only at hl
              have take := it2 (r * 64 + s)
              rw [hc, show (r * 64 + s) / 64 = r by omega, show (r * 64 + s) % 64 = s by omega, r2, s2] at take
              refine ⟨fun q => ?_, fun best q => ?_⟩
              · apply h24
                unfold vcMd_joinOne_24 vcMd_joinOne_118 vcMd_joinOne_127
                rw [nz_cl (a := g) (by omega), nz_cl (a := h) (by omega)]
                refine ⟨fun q => absurd q (nI_ge (by omega) (by omega)), fun _ => ⟨vp_in_nI (by omega) (by omega), fun q => absurd q ht, fun _ => ⟨vp_in_nI (by omega) (by omega), fun q => absurd q hth, fun _ => ⟨vp_in_nI (by omega) (by omega), vp_in_nI (by omega) (by omega), ?_⟩⟩⟩⟩
                simp (disch := omega) only [li_0, li_1, li_2, li_3, li_4, li_8, li_16, li_20, li_24, li_40, li_63, li_64, li_255, li_256, li_576, nI_add, pk_mul, nz_neg, nz_sub, nz_cl, nz_le, nz_lt, nz_eq, nz_in, nz_div, true_and, forall_eq]
                refine sp_Md_far__02 hne (by omega) (by omega) g2 g4 ?_
                rw [g1, g3]
                simp (disch := omega) only [li_0, li_1, li_2, li_3, li_4, li_8, li_16, li_20, li_24, li_40, li_63, li_64, li_255, li_256, li_576, nI_add, pk_mul, nz_neg, nz_sub, nz_cl, nz_le, nz_lt, nz_eq, nz_in, nz_div, true_and, forall_eq, lj_0, lj_1, lj_2, nz_l, lN_add, lN_mul, nz_lsub, nz_ldiv, nz_lle, nz_llt, nz_leq, lN_i, lc_ge, lc_le, lc_gt, lc_lt, lc_eq, eq_self]
                rw [← hjc]
                exact ⟨by omega, fun _ => take (jno_s (i := r * 64 + s) q hc1), fun q => absurd trivial q⟩
              · have hbv : best / 64 < best % 64 ∧ best % 64 < z := jso_v (i := r * 64 + s) (by rw [hff]; exact q)
                have hfb := q.2
                have hev := hen.2.1 (best / 64) (by omega)
                apply h24
                unfold vcMd_joinOne_24 vcMd_joinOne_118 vcMd_joinOne_127
                rw [nz_cl (a := g) (by omega), nz_cl (a := h) (by omega)]
                refine ⟨fun q => absurd q (nI_ge (by omega) (by omega)), fun _ => ⟨vp_in_nI (by omega) (by omega), fun q => absurd q ht, fun _ => ⟨vp_in_nI (by omega) (by omega), fun q => absurd q hth, fun _ => ⟨vp_in_nI (by omega) (by omega), vp_in_nI (by omega) (by omega), ?_⟩⟩⟩⟩
                simp (disch := omega) only [li_0, li_1, li_2, li_3, li_4, li_8, li_16, li_20, li_24, li_40, li_63, li_64, li_255, li_256, li_576, nI_add, pk_mul, nz_neg, nz_sub, nz_cl, nz_le, nz_lt, nz_eq, nz_in, nz_div, true_and, forall_eq]
                refine sp_Md_far__02 hne (by omega) (by omega) g2 g4 ?_
                rw [g1, g3]
                have hdl : jcost D C M G r s < 9223372036854775808 := by omega
                rw [hjc] at hdl
                simp (disch := omega) only [li_0, li_1, li_2, li_3, li_4, li_8, li_16, li_20, li_24, li_40, li_63, li_64, li_255, li_256, li_576, nI_add, pk_mul, nz_neg, nz_sub, nz_cl, nz_le, nz_lt, nz_eq, nz_in, nz_div, true_and, forall_eq, lj_0, lj_1, lj_2, nz_l, lN_add, lN_mul, nz_lsub, nz_ldiv, nz_lle, nz_llt, nz_leq, lN_i, lc_ge, lc_le, lc_gt, lc_lt, lc_eq, nz_em1]
                rw [← hjc]
                exact ⟨by omega, fun q => absurd q id, fun _ => ⟨fun q2 => it2 best ⟨fstMin_s2 (k := r * 64 + s) q.1 (by rw [hc]; omega), hfb⟩, fun q2 => take ⟨fstMin_s1 (k := r * 64 + s) q.1 (by rw [hc]; omega), hc1⟩⟩⟩
        obtain ⟨in1, in2⟩ := inner (n - (g + 1)) (g + 1) (r + 1) (by omega) (by omega) (by omega) r3
        refine ⟨fun q => ?_, fun best q => ?_⟩
        · apply h9
          unfold vcMd_joinOne_9
          refine ⟨fun q => absurd q (nI_ge (by omega) (by omega)), fun _ => ?_⟩
          simp (disch := omega) only [li_0, li_1, li_2, li_3, li_4, li_8, li_16, li_20, li_24, li_40, li_63, li_64, li_255, li_256, li_576, nI_add, pk_mul, nz_neg, nz_sub, nz_cl, nz_le, nz_lt, nz_eq, nz_in, nz_div, true_and, forall_eq]
          exact in1 q
        · apply h9
          unfold vcMd_joinOne_9
          refine ⟨fun q => absurd q (nI_ge (by omega) (by omega)), fun _ => ?_⟩
          simp (disch := omega) only [li_0, li_1, li_2, li_3, li_4, li_8, li_16, li_20, li_24, li_40, li_63, li_64, li_255, li_256, li_576, nI_add, pk_mul, nz_neg, nz_sub, nz_cl, nz_le, nz_lt, nz_eq, nz_in, nz_div, true_and, forall_eq]
          exact in2 best q
  exact (outer n 0 0 (by omega) rnk_0).1 (fun j hj => hno j (by omega))
