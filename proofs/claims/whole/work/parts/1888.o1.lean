/-! one call on both sides: put, at, given, clear, told -/
theorem pkd {r g b a : Nat} (hr : r < 256) (hg : g < 256) (hb : b < 256) (ha : a < 256) : (((nI r <<< ((24 : Int32) &&& 31)) ||| (nI g <<< ((16 : Int32) &&& 31))) ||| (nI b <<< ((8 : Int32) &&& 31))) ||| nI a = nI (pk4 r g b a) := by
  have e := sp_packed (post := fun v => v = nI (pk4 r g b a)) hr hg hb ha rfl
  unfold wpCL_packed at e
  exact e
theorem op_put {W H : Nat} {sa he sti sma sra oti oth plv fta msa mig mgi mpa mha : Nat → Int32} {ssz sst osz psz frd re ms mr : Int32} {fmi mrs : Nat → Int64} {out : Nat → Int64} {x y r g b a a1 a4 a5 a6 : Int32} {Ψ : Int32 → (Nat → Int32) → Int32 → Int32 → (Nat → Int64) → Prop} (hW : W ≤ 24) (hH : H ≤ 24) (hA : alk W H sa he ssz sst sti sma sra osz oti oth psz plv frd fta fmi re ms mr msa mig mgi mpa mha mrs)
    (h : ∀ e sa' st' ps' out', (∀ Φ : Int32 → Int32 → Int32 → (Nat → Int32) → Prop, (∀ r2 re' msa', alk W H sa' he ssz st' sti sma sra osz oti oth ps' plv frd fta fmi re' ms mr msa' mig mgi mpa mha mrs → (e = 0 → out' 0 = if r2 = 0 then 0 else 1) → Φ r2 e re' msa') → wpMd_put 2304 a1 (nI W) (nI H) a4 a5 a6 re ms mr msa x y r g b a Φ) → Ψ e sa' st' ps' out') :
    wpLw_put (W * H) 1 (nI W) (nI H) sa ssz sst psz out x y r g b a Ψ := by
  have hN := wh_le hW hH
  obtain ⟨S, gv, Q, k1, k2, k3, k4, k5, k6, k7⟩ := id hA
  unfold wpLw_put vcLw_put_24
  by_cases hp : plc W H x y
  · by_cases hl : lv4 r g b a
    · left
      obtain ⟨xa, yb, p1, p2, rfl, rfl⟩ := id hp
      obtain ⟨⟨r', r1, rfl⟩, ⟨g', g1, rfl⟩, ⟨b', b1, rfl⟩, ⟨a', c1, rfl⟩⟩ := id hl
      have hpl := plc_at p1 p2
      obtain ⟨p, ep⟩ : ∃ p, p = yb * W + xa := ⟨_, rfl⟩
      rw [← ep] at hpl
      have ht := pk4_lt r1 g1 b1 c1
      have hlv := lev_pk r1 g1 b1 c1
      have model : ∀ v : Int64, (v = if S p = pk4 r' g' b' a' then 0 else 1) → Ψ 0 (upd sa p (nI (pk4 r' g' b' a'))) 1 0 (vp_updL out 0 v) := by
        intro v hv
        refine h _ _ _ _ _ (fun Φ hΦ => ?_)
        unfold wpMd_put
        refine sp_ip hW hH (fun _ => ⟨fun _ => sp_ac (fun _ => ⟨fun q => absurd q n10, fun _ => ?_⟩) (fun q => absurd hl q), fun q => absurd q n10⟩) (fun q => absurd hp q)
        unfold vcMd_put_32 vcMd_put_109 vcMd_put_114
        refine ⟨fun _ => ?_, fun q => absurd (by decide) q⟩
        have m0 : msa (4 * p) = nI (lev (S p) 0) := (k2 p hpl).2 0 (by omega)
        have m1 := (k2 p hpl).2 1 (by omega)
        have m2 := (k2 p hpl).2 2 (by omega)
        have m3 := (k2 p hpl).2 3 (by omega)
        have l0 := lev_lt (S p) 0
        have l1 := lev_lt (S p) 1
        have l2 := lev_lt (S p) 2
        have l3 := lev_lt (S p) 3
        simp (disch := omega) only [li_0, li_1, li_2, li_3, li_4, li_8, li_16, li_20, li_24, li_40, li_63, li_64, li_255, li_256, li_576, nI_add, pk_mul, nz_neg, nz_sub, nz_cl, nz_le, nz_lt, nz_eq, nz_in, nz_div, true_and, forall_eq, Nat.mul_comm W yb, ← ep, m0, m1, m2, m3]
        have fin : ∀ v2 : Int32, (v2 = 0 ∧ S p = pk4 r' g' b' a' ∨ v2 = 1 ∧ S p ≠ pk4 r' g' b' a') → Φ v2 0 0 (upd (upd (upd (upd msa (4 * p) (nI r')) (4 * p + 1) (nI g')) (4 * p + 2) (nI b')) (4 * p + 3) (nI a')) := by
          intro v2 hv2
          refine hΦ _ _ _ ?_ (fun _ => ?_)
          · refine ⟨fun q => if q = p then pk4 r' g' b' a' else S q, gv, Q, fun q hq => ?_, ?_, k3, k4, k5, fun q => absurd q n10, Or.inl ⟨rfl, rfl⟩⟩
            · try dsimp only
              by_cases c : q = p
              · rw [if_pos c, c]; exact ⟨ht, pk_us⟩
              · rw [if_neg c, pk_un c]; exact k1 q hq
            · have e := setc_of (f := msa) (k := p) (t := pk4 r' g' b' a')
              rw [hlv.1, hlv.2.1, hlv.2.2.1, hlv.2.2.2, Nat.add_zero] at e
              rw [e]
              exact chs_set k2 ht
          · rw [pk_uLs, hv]
            rcases hv2 with ⟨e1, e2⟩ | ⟨e1, e2⟩
            · rw [if_pos e2, if_pos e1]
            · rw [if_neg e2, if_neg (by rw [e1]; exact n10)]
        refine ⟨fun q => ⟨rfl, fin 1 (Or.inr ⟨rfl, fun e => q (by rw [e]; exact hlv.1)⟩)⟩, fun q0 => ⟨fun q => ⟨rfl, fin 1 (Or.inr ⟨rfl, fun e => q (by rw [e]; exact hlv.2.1)⟩)⟩, fun q1 => ⟨fun q => ⟨rfl, fin 1 (Or.inr ⟨rfl, fun e => q (by rw [e]; exact hlv.2.2.1)⟩)⟩, fun q2 => ⟨fun q3 => ⟨rfl, fin 0 (Or.inl ⟨rfl, ?_⟩)⟩, fun q => ⟨rfl, fin 1 (Or.inr ⟨rfl, fun e => q (by rw [e]; exact hlv.2.2.2)⟩)⟩⟩⟩⟩⟩
        rw [← pk4_lev (k1 p hpl).1, q0, q1, q2, q3]
      unfold wpCL_put
      refine sp_cp hW hH hp (sp_cl hl ?_)
      unfold wpCL_placeOf vcCL_put_53 wpCL_forgetMade wpPa_drop
      refine sp_packed r1 g1 b1 c1 ?_
      simp (disch := omega) only [li_0, li_1, li_2, li_3, li_4, li_8, li_16, li_20, li_24, li_40, li_63, li_64, li_255, li_256, li_576, nI_add, pk_mul, nz_neg, nz_sub, nz_cl, nz_le, nz_lt, nz_eq, nz_in, nz_div, true_and, forall_eq, ← ep]
      rw [(k1 p hpl).2]
      refine ⟨fun q => ⟨rfl, fun _ => model 0 ?_, fun q2 => absurd trivial q2⟩, fun q => ⟨rfl, fun q2 => absurd q2 (by omega), fun _ => model 1 ?_⟩⟩
      · rw [if_pos ((nI_eq32 (k1 p hpl).1 ht).mp q)]
      · rw [if_neg (fun q2 => q (by rw [q2]))]
    · right; right
      refine ⟨?_, h _ _ _ _ _ (fun Φ hΦ => ?_)⟩
      · unfold wxCL_put
        exact Or.inl (sp_cp hW hH hp (Or.inr (sp_clx hl)))
      · unfold wpMd_put
        refine sp_ip hW hH (fun _ => ⟨fun _ => sp_ac (fun q => absurd q hl) (fun _ => ⟨fun _ => ?_, fun q => absurd rfl q⟩), fun q => absurd q n10⟩) (fun q => absurd hp q)
        unfold vcMd_put_32
        exact ⟨fun q => absurd q (by decide), fun _ => ⟨rfl, hΦ _ _ _ hA (fun q => absurd q (by decide))⟩⟩
  · right; left
    refine ⟨?_, h _ _ _ _ _ (fun Φ hΦ => ?_)⟩
    · unfold wxCL_put
      exact Or.inr (sp_cpx hW hH hp)
    · unfold wpMd_put
      refine sp_ip hW hH (fun q => absurd q hp) (fun _ => ⟨fun q => absurd rfl q, fun _ => ?_⟩)
      unfold vcMd_put_32
      exact ⟨fun q => absurd q (by decide), fun _ => ⟨rfl, hΦ _ _ _ hA (fun q => absurd q n10)⟩⟩
theorem op_at {W H : Nat} {sa he sti sma sra oti oth plv fta msa mig mgi mpa mha : Nat → Int32} {ssz sst osz psz frd re ms mr : Int32} {fmi mrs : Nat → Int64} {out : Nat → Int64} {x y a1 a4 a5 a6 : Int32} {Ψ : Int32 → (Nat → Int64) → Prop} (hW : W ≤ 24) (hH : H ≤ 24) (hA : alk W H sa he ssz sst sti sma sra osz oti oth psz plv frd fta fmi re ms mr msa mig mgi mpa mha mrs)
    (h : ∀ e out', (∀ Φ : Int32 → Int32 → Prop, (∀ r2, (e = 0 → out' 0 = r2.toInt64) → Φ r2 e) → wpMd_at 2304 a1 (nI W) (nI H) a4 a5 a6 re ms mr msa x y Φ) → Ψ e out') :
    wpLw_at (W * H) 1 (nI W) (nI H) sa out x y Ψ := by
  have hN := wh_le hW hH
  obtain ⟨S, gv, Q, k1, k2, k3, k4, k5, k6, k7⟩ := id hA
  unfold wpLw_at
  by_cases hp : plc W H x y
  · left
    obtain ⟨xa, yb, p1, p2, rfl, rfl⟩ := id hp
    have hpl := plc_at p1 p2
    obtain ⟨p, ep⟩ : ∃ p, p = yb * W + xa := ⟨_, rfl⟩
    rw [← ep] at hpl
    unfold wpCL_at
    refine sp_cp hW hH hp ?_
    unfold wpCL_placeOf
    simp (disch := omega) only [li_0, li_1, li_2, li_3, li_4, li_8, li_16, li_20, li_24, li_40, li_63, li_64, li_255, li_256, li_576, nI_add, pk_mul, nz_neg, nz_sub, nz_cl, nz_le, nz_lt, nz_eq, nz_in, nz_div, true_and, forall_eq, ← ep]
    rw [(k1 p hpl).2]
    refine h _ _ (fun Φ hΦ => ?_)
    unfold wpMd_at
    refine sp_ip hW hH (fun _ => ⟨fun q => absurd q n10, fun _ => ?_⟩) (fun q => absurd hp q)
    unfold vcMd_at_15 vcMd_at_82
    have m0 : msa (4 * p) = nI (lev (S p) 0) := (k2 p hpl).2 0 (by omega)
    have m1 := (k2 p hpl).2 1 (by omega)
    have m2 := (k2 p hpl).2 2 (by omega)
    have m3 := (k2 p hpl).2 3 (by omega)
    intro v hv
    rw [show (4 : Int32) * (nI W * nI yb + nI xa) = nI (4 * p) by rw [li_4, pk_mul, nI_add, pk_mul, Nat.mul_comm W yb, ← ep]] at hv
    subst hv
    rw [li_1, li_2, li_3, nI_add, nI_add, nI_add, nz_cl (by omega), nz_cl (by omega), nz_cl (by omega), nz_cl (by omega), m0, m1, m2, m3, pkd (lev_lt _ _) (lev_lt _ _) (lev_lt _ _) (lev_lt _ _), pk4_lev (k1 p hpl).1]
    refine ⟨fun _ => ⟨vp_in_nI (by omega) (by omega), vp_in_nI (by omega) (by omega), vp_in_nI (by omega) (by omega), vp_in_nI (by omega) (by omega), hΦ _ (fun _ => pk_uLs)⟩, fun q => absurd (by decide) q⟩
  · right
    refine ⟨?_, h _ _ (fun Φ hΦ => ?_)⟩
    · unfold wxCL_at
      exact Or.inr (sp_cpx hW hH hp)
    · unfold wpMd_at
      refine sp_ip hW hH (fun q => absurd q hp) (fun _ => ⟨fun _ => ?_, fun q => absurd rfl q⟩)
      unfold vcMd_at_15 vcMd_at_82
      exact fun v hv => ⟨fun q => absurd q (by decide), fun _ => hΦ _ (fun q => absurd q n10)⟩
theorem sp_Md_givenCount {a1 a2 a3 a4 a5 a6 a7 a8 a9 : Int32} {ig : Nat → Int32} {g : Nat → Bool} {post : Int32 → Prop} (hg : ∀ k, k < 64 → ig k = (if g k = true then 1 else 0)) (h : post (nI (cnt 64 g))) :
    wpMd_givenCount 64 a1 a2 a3 a4 a5 a6 a7 a8 a9 ig post := by
  unfold wpMd_givenCount
  intro K hK
  have loop : ∀ (d k : Nat), k + d = 64 → K (nI (cnt k g)) (nI k) := by
    intro d
    induction d with
    | zero =>
      intro k hk
      have : k = 64 := by omega
      subst this
      apply hK
      unfold vcMd_givenCount_4
      exact ⟨fun _ => h, fun q => absurd (by decide) q⟩
    | succ d ih =>
      intro k hk
      apply hK
      unfold vcMd_givenCount_4 vcMd_givenCount_25
      have := hg k (by omega)
      have hn := ih (k + 1) (by omega)
      refine ⟨fun q => absurd q (by rw [li_64]; exact nI_ge (by omega) (by omega)), fun _ => ⟨vp_in_nI (by omega) (by omega), fun q v hv => ?_, fun q v hv => ?_⟩⟩
      · rw [nz_cl (by omega), this] at q
        have e : ¬ g k = true := fun z => by rw [if_pos z] at q; exact n10 q
        have e2 : cnt (k + 1) g = cnt k g + 0 := by
          show cnt k g + (if g k = true then 1 else 0) = _
          rw [if_neg e]
        rw [e2] at hn
        rw [hv, li_0, nI_add, nI_1]
        exact hn
      · rw [nz_cl (by omega), this] at q
        have e : g k = true := Classical.byContradiction (fun z => by rw [if_neg z] at q; exact q rfl)
        have e2 : cnt (k + 1) g = cnt k g + 1 := by
          show cnt k g + (if g k = true then 1 else 0) = _
          rw [if_pos e]
        rw [e2] at hn
        rw [hv, li_1, nI_add, nI_add]
        exact hn
  exact loop 64 0 (by omega)
theorem vp01 : vp_in (0 : Int32) 1 := by
  rw [li_0]
  exact vp_in_nI (by omega) (by omega)
def gset {α : Type} (k : Nat) (b : α) (g : Nat → α) : Nat → α := fun j => if j = k then b else g j
theorem gset_s {α : Type} {k : Nat} {b : α} {g : Nat → α} : gset k b g k = b := if_pos rfl
theorem gset_n {α : Type} {k j : Nat} {b : α} {g : Nat → α} (h : j ≠ k) : gset k b g j = g j := if_neg h
theorem cnt_set {n k : Nat} {g : Nat → Bool} {b : Bool} (hk : k < n) : cnt n (gset k b g) + (if g k = true then 1 else 0) = cnt n g + (if b = true then 1 else 0) := cnt_up hk g b
theorem op_given {W H : Nat} {sa he sti sma sra oti oth plv fta msa mig mgi mpa mha : Nat → Int32} {ssz sst osz psz frd re ms mr : Int32} {fmi mrs : Nat → Int64} {out : Nat → Int64} {x r g b a a1 a4 a5 a6 : Int32} {Ψ : Int32 → Int32 → (Nat → Int32) → (Nat → Int32) → (Nat → Int64) → Prop} (hA : alk W H sa he ssz sst sti sma sra osz oti oth psz plv frd fta fmi re ms mr msa mig mgi mpa mha mrs)
    (h : ∀ e os' ot' oh' out', (∀ Φ : Int32 → Int32 → (Nat → Int32) → (Nat → Int32) → Prop, (∀ r2 ig' gi', alk W H sa he ssz sst sti sma sra os' ot' oh' psz plv frd fta fmi re ms mr msa ig' gi' mpa mha mrs → (e = 0 → out' 0 = r2.toInt64) → Φ r2 e ig' gi') → wpMd_given 64 256 a1 (nI W) (nI H) a4 a5 a6 re ms mr mig mgi x r g b a Φ) → Ψ e os' ot' oh' out') :
    wpLw_given 64 64 1 (nI W) (nI H) osz oti oth out x r g b a Ψ := by
  obtain ⟨S, gv, Q, k1, k2, k3, k4, k5, k6, k7⟩ := id hA
  unfold wpLw_given
  by_cases hx : ∃ k, k < 64 ∧ x = nI k
  · obtain ⟨k, hk, rfl⟩ := hx
    obtain ⟨o1, o2⟩ := k3 k hk
    obtain ⟨m1, m2⟩ := k4 k hk
    have hcl := cnt_le 64 gv
    have model : ∀ (b0 : Bool) (t : Nat) (s0 : Int32) (ot' oh' : Nat → Int32) (Φ : Int32 → Int32 → (Nat → Int32) → (Nat → Int32) → Prop) , (s0 = if b0 = true then 1 else 0) → (b0 = true → t < 4294967296 ∧ r = nI (lev t 0) ∧ g = nI (lev t 1) ∧ b = nI (lev t 2) ∧ a = nI (lev t 3)) → ofOK (gset k b0 gv) (gset k (t) Q) ot' oh' →
        (∀ r2 ig' gi', alk W H sa he ssz sst sti sma sra (nI (cnt 64 (gset k b0 gv))) ot' oh' psz plv frd fta fmi re ms mr msa ig' gi' mpa mha mrs → r2 = nI (cnt 64 (gset k b0 gv)) → Φ r2 0 ig' gi') → vcMd_given_64 64 256 (nI W) (nI H) a4 a5 a6 re ms mr (nI k) r g b a Φ s0 (nI k) 0 mig mgi := by
      intro b0 t s0 ot' oh' Φ hs0 ht ho hΦ
      have hig : ∀ j, j < 64 → upd mig k (vp_nar .boolean s0) j = (if (gset k b0 gv) j = true then 1 else 0) := by
        intro j hj
        try dsimp only
        by_cases c : j = k
        · rw [c, pk_us, gset_s, hs0]
          split <;> rfl
        · rw [pk_un c, gset_n c]
          exact (k4 j hj).1
      unfold vcMd_given_64
      simp (disch := omega) only [li_0, li_1, li_2, li_3, li_4, li_8, li_16, li_20, li_24, li_40, li_63, li_64, li_255, li_256, li_576, nI_add, pk_mul, nz_neg, nz_sub, nz_cl, nz_le, nz_lt, nz_eq, nz_in, nz_div, true_and, forall_eq]
      refine sp_Md_givenCount (g := gset k b0 gv) hig (hΦ _ _ _ ⟨S, (gset k b0 gv), (gset k (t) Q), k1, k2, ho, fun j hj => ⟨hig j hj, fun hgj => ?_⟩, rfl, k6, k7⟩ rfl)
      try dsimp only at hgj
      try dsimp only
      by_cases c : j = k
      · subst c
        rw [gset_s] at hgj
        obtain ⟨t1, t2, t3, t4, t5⟩ := ht hgj
        rw [gset_s]
        refine ⟨t1, fun c hc => ?_⟩
        have e := setc_of (f := mgi) (k := j) (t := t)
        rw [← t2, ← t3, ← t4, ← t5, Nat.add_zero] at e
        rw [e]
        exact setc_in hc
      · rw [gset_n c] at hgj
        rw [gset_n c]
        obtain ⟨q1, q2⟩ := (k4 j hj).2 hgj
        refine ⟨q1, fun c hc => ?_⟩
        simp only [upd]
        rw [if_neg (by omega), if_neg (by omega), if_neg (by omega), if_neg (by omega)]
        exact q2 c hc
    by_cases hr : r = -1
    · subst hr
      left
      have hs := cnt_set (n := 64) (k := k) (g := gv) (b := false) hk
      rw [if_neg (show ¬ false = true by decide), Nat.add_zero] at hs
      have fin : ∀ oh', ofOK (gset k false gv) (gset k (0) Q) oti oh' → ∀ os', os' = nI (cnt 64 (gset k false gv)) → Ψ 0 os' oti oh' (vp_updL out 0 os'.toInt64) := by
        intro oh' ho os' hos
        refine h _ _ _ _ _ (fun Φ hΦ => ?_)
        unfold wpMd_given vcMd_given_32 vcMd_given_37
        refine ⟨fun q => absurd q (nI_n0 (by omega)), fun _ => ⟨fun _ => ⟨fun _ => ⟨fun _ => ⟨fun _ => ?_, fun q => absurd rfl q⟩, fun q => absurd (by decide) q⟩, fun q => absurd rfl q⟩, fun q => absurd ?_ q⟩⟩
        · refine model false 0 0 oti oh' Φ rfl (fun q => absurd q (by decide)) ho (fun r2 ig' gi' hA' hr2 => ?_)
          rw [← hos] at hA' hr2
          exact hΦ _ _ _ hA' (fun _ => by rw [pk_uLs, hr2])
        · rw [li_64]; exact (nI_ltI (by omega) (by omega)).mpr hk
      unfold wpCL_given vcCL_given_62
      refine ⟨fun q => absurd q (nI_n0 (by omega)), fun _ => ⟨fun _ => ⟨fun q => absurd rfl q, fun _ => ?_⟩, fun q => absurd ?_ q⟩⟩
      · unfold wpOf_withdraw vcOf_withdraw_26
        rw [nz_cl (by omega), o1, vnb0]
        refine ⟨vp_in_nI (by omega) (by omega), fun q => ⟨vp01, ?_⟩, fun q => ⟨vp_in_nI (by omega) (by omega), fun w hw => ⟨vp01, ?_⟩⟩⟩
        · have e : ¬ gv k = true := fun z => by rw [if_pos z] at q; exact n10 q
          rw [if_neg e, Nat.add_zero] at hs
          refine fin oth (fun j hj => ?_) osz (by rw [hs, k5])
          try dsimp only
          by_cases c : j = k
          · rw [c, gset_s, gset_s, o1, if_neg e, if_neg (by decide)]
            exact ⟨rfl, fun q => absurd q (by decide)⟩
          · rw [gset_n c, gset_n c]; exact k3 j hj
        · have e : gv k = true := Classical.byContradiction (fun z => by rw [if_neg z] at q; exact q rfl)
          rw [if_pos e] at hs
          refine fin _ (fun j hj => ?_) w (by rw [hw, k5, li_1, nz_sub (by omega)]; congr 1; omega)
          try dsimp only
          by_cases c : j = k
          · rw [c, gset_s, gset_s, pk_us, if_neg (by decide)]
            exact ⟨rfl, fun q => absurd q (by decide)⟩
          · rw [gset_n c, gset_n c, pk_un c]; exact k3 j hj
      · rw [li_64]; exact (nI_ltI (by omega) (by omega)).mpr hk
    · by_cases hl : lv4 r g b a
      · left
        obtain ⟨⟨r', r1, rfl⟩, ⟨g', g1, rfl⟩, ⟨b', b1, rfl⟩, ⟨a', c1, rfl⟩⟩ := id hl
        have hlv := lev_pk r1 g1 b1 c1
        have ht := pk4_lt r1 g1 b1 c1
        have hs := cnt_set (n := 64) (k := k) (g := gv) (b := true) hk
        rw [if_pos rfl] at hs
        have fin : ∀ ot' oh', ofOK (gset k true gv) (gset k (pk4 r' g' b' a') Q) ot' oh' → ∀ os', os' = nI (cnt 64 (gset k true gv)) → Ψ 0 os' ot' oh' (vp_updL out 0 os'.toInt64) := by
          intro ot' oh' ho os' hos
          refine h _ _ _ _ _ (fun Φ hΦ => ?_)
          unfold wpMd_given vcMd_given_32 vcMd_given_37
          refine ⟨fun q => absurd q (nI_n0 (by omega)), fun _ => ⟨fun _ => ⟨fun q => absurd q hr, fun _ => ?_⟩, fun q => absurd ?_ q⟩⟩
          · refine sp_ac (fun _ => ⟨fun q => absurd q n10, fun _ => ⟨fun _ => ⟨fun q => absurd q hr, fun _ => ?_⟩, fun q => absurd (by decide) q⟩⟩) (fun q => absurd hl q)
            refine model true (pk4 r' g' b' a') 1 ot' oh' Φ rfl (fun _ => ⟨ht, by rw [hlv.1], by rw [hlv.2.1], by rw [hlv.2.2.1], by rw [hlv.2.2.2]⟩) ho (fun r2 ig' gi' hA' hr2 => ?_)
            rw [← hos] at hA' hr2
            exact hΦ _ _ _ hA' (fun _ => by rw [pk_uLs, hr2])
          · rw [li_64]; exact (nI_ltI (by omega) (by omega)).mpr hk
        unfold wpCL_given vcCL_given_62
        refine ⟨fun q => absurd q (nI_n0 (by omega)), fun _ => ⟨fun _ => ⟨fun _ => sp_cl hl ?_, fun q => absurd q hr⟩, fun q => absurd ?_ q⟩⟩
        · refine sp_packed r1 g1 b1 c1 ?_
          unfold wpOf_accept vcOf_accept_26
          rw [nz_cl (by omega), o1, vnb1]
          refine ⟨vp_in_nI (by omega) (by omega), fun q => ⟨vp_in_nI (by omega) (by omega), ⟨vp01, ?_⟩⟩, fun q => ⟨vp_in_nI (by omega) (by omega), fun w hw => ⟨vp_in_nI (by omega) (by omega), ⟨vp01, ?_⟩⟩⟩⟩
          · have e : gv k = true := Classical.byContradiction (fun z => by rw [if_neg z] at q; exact q rfl)
            rw [if_pos e] at hs
            refine fin _ oth (fun j hj => ?_) osz (by rw [k5]; congr 1; omega)
            try dsimp only
            by_cases c : j = k
            · rw [c, gset_s, gset_s, o1, if_pos e, if_pos rfl, pk_us]
              exact ⟨rfl, fun _ => ⟨ht, rfl⟩⟩
            · rw [gset_n c, gset_n c, pk_un c]; exact k3 j hj
          · have e : ¬ gv k = true := fun z => by rw [if_pos z] at q; exact n10 q
            rw [if_neg e] at hs
            refine fin _ _ (fun j hj => ?_) w (by rw [hw, k5, li_1, nI_add]; congr 1; omega)
            try dsimp only
            by_cases c : j = k
            · rw [c, gset_s, gset_s, pk_us, if_pos rfl, pk_us]
              exact ⟨rfl, fun _ => ⟨ht, rfl⟩⟩
            · rw [gset_n c, gset_n c, pk_un c, pk_un c]; exact k3 j hj
        · rw [li_64]; exact (nI_ltI (by omega) (by omega)).mpr hk
      · right; right
        refine ⟨?_, h _ _ _ _ _ (fun Φ hΦ => ?_)⟩
        · unfold wxCL_given
          refine ⟨fun q => absurd q (nI_n0 (by omega)), fun _ => ⟨fun _ => ⟨fun _ => Or.inr (sp_clx hl), fun q => absurd q hr⟩, fun q => absurd ?_ q⟩⟩
          rw [li_64]; exact (nI_ltI (by omega) (by omega)).mpr hk
        · unfold wpMd_given vcMd_given_37
          refine ⟨fun q => absurd q (nI_n0 (by omega)), fun _ => ⟨fun _ => ⟨fun q => absurd q hr, fun _ => sp_ac (fun q => absurd q hl) (fun _ => ⟨fun _ => ⟨fun q => absurd q (by decide), fun _ => hΦ _ _ _ hA (fun q => absurd q (by decide))⟩, fun q => absurd rfl q⟩)⟩, fun q => absurd ?_ q⟩⟩
          rw [li_64]; exact (nI_ltI (by omega) (by omega)).mpr hk
  · right; left
    have hno : ¬ x < 0 → ¬ x < 64 := by
      intro q1 q2
      obtain ⟨j, j1, j2⟩ := n_of q1
      rw [j2, li_64, nI_ltI (by omega) (by omega)] at q2
      exact hx ⟨j, q2, j2⟩
    refine ⟨?_, h _ _ _ _ _ (fun Φ hΦ => ?_)⟩
    · unfold wxCL_given xcCL_given_10
      exact ⟨fun _ => rfl, fun q => ⟨fun q2 => absurd q2 (hno q), fun _ => rfl⟩⟩
    · unfold wpMd_given vcMd_given_11 vcMd_given_37
      refine ⟨fun q => ⟨fun q2 => absurd q2 (by decide), fun _ => hΦ _ _ _ hA (fun q => absurd q n10)⟩, fun q => ⟨fun q2 => absurd q2 (hno q), fun _ => ⟨fun q2 => absurd q2 (by decide), fun _ => hΦ _ _ _ hA (fun q => absurd q n10)⟩⟩⟩
