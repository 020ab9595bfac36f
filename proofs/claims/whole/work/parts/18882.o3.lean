/-! one call on both sides: colour, index, nearest, sum, count, exact -/
theorem nz0 {z : Nat} (h : 0 < z) (h2 : z < 2147483648) : ¬ nI z = 0 := by
  rw [li_0, nI_eq (by omega) (by omega)]
  omega
theorem sp_cpal {w h : Int32} {z : Nat} {post : Prop} (hz : 0 < z) (hz2 : z ≤ 64) (hp : post) : wpCL_checkPalette w h (nI z) post := by
  unfold wpCL_checkPalette
  exact ⟨fun _ => hp, fun q => absurd q (nz0 hz (by omega))⟩
theorem sp_cpalx {w h : Int32} : wxCL_checkPalette w h 0 "java/lang/IllegalStateException" := by
  unfold wxCL_checkPalette
  exact ⟨fun q => absurd rfl q, fun _ => rfl⟩
theorem sp_cpc {w h : Int32} {z k : Nat} {post : Prop} (hz2 : z ≤ 64) (hk : k < z) (hp : post) : wpCL_checkPaletteColour w h (nI z) (nI k) post := by
  unfold wpCL_checkPaletteColour
  exact ⟨fun q => absurd q (nI_n0 (by omega)), fun _ => ⟨fun _ => hp, fun q => absurd ((nI_ltI (by omega) (by omega)).mpr hk) q⟩⟩
theorem sp_cpcx {w h x : Int32} {z : Nat} (hz2 : z ≤ 64) (hk : ¬ ∃ k, k < z ∧ x = nI k) : wxCL_checkPaletteColour w h (nI z) x "java/lang/IndexOutOfBoundsException" := by
  unfold wxCL_checkPaletteColour xcCL_checkPaletteColour_15
  refine ⟨fun _ => rfl, fun q1 => ⟨fun q2 => hk ?_, fun _ => rfl⟩⟩
  obtain ⟨j, j1, j2⟩ := n_of q1
  rw [j2, nI_ltI (by omega) (by omega)] at q2
  exact ⟨j, q2, j2⟩
theorem op_colour {W H : Nat} {sa he sti sma sra oti oth plv fta msa mig mgi mpa mha : Nat → Int32} {ssz sst osz psz frd re ms mr : Int32} {fmi mrs : Nat → Int64} {out : Nat → Int64} {x c a1 a4 a5 a6 : Int32} {Ψ : Int32 → (Nat → Int64) → Prop} (hA : alk W H sa he ssz sst sti sma sra osz oti oth psz plv frd fta fmi re ms mr msa mig mgi mpa mha mrs)
    (h : ∀ e out', (∀ Φ : Int32 → Int32 → Prop, (∀ r2, (e = 0 → out' 0 = r2.toInt64) → Φ r2 e) → wpMd_colour 256 a1 (nI W) (nI H) a4 a5 a6 re ms mr mpa x c Φ) → Ψ e out') :
    wpLw_colour 256 1 (nI W) (nI H) psz plv out x c Ψ := by
  obtain ⟨S, gv, Q, k1, k2, k3, k4, k5, k6, k7⟩ := id hA
  unfold wpLw_colour
  rcases k7 with ⟨rfl, rfl⟩ | ⟨-, z, R, D, P, C, M, c1, c2, c3, rfl, rfl, rfl, c7, c8, c9, c10, c11, c12, c13, c14⟩
  · right; left
    refine ⟨by unfold wxCL_colour; exact Or.inr sp_cpalx, h _ _ (fun Φ hΦ => ?_)⟩
    unfold wpMd_colour vcMd_colour_26 vcMd_colour_27 vcMd_colour_47
    refine ⟨fun _ => ?_, fun _ => ⟨fun _ => ?_, fun _ => ⟨fun _ => ?_, fun _ => ⟨fun _ => ?_, fun _ => ?_⟩⟩⟩⟩
    all_goals exact sp_te0 ⟨fun _ => hΦ _ (fun q => absurd q n10), fun q => absurd rfl q⟩
  · by_cases hk : ∃ k, k < z ∧ x = nI k
    · by_cases hc : ∃ k, k < 4 ∧ c = nI k
      · obtain ⟨k, q1, rfl⟩ := hk
        obtain ⟨cc, q2, rfl⟩ := hc
        left
        unfold wpCL_colour
        refine sp_cpal c1 c2 (sp_cpc c2 q1 ⟨fun q => absurd q (nI_n0 (by omega)), fun _ => ⟨fun _ => ?_, fun q => absurd (by rw [li_4]; exact (nI_ltI (by omega) (by omega)).mpr q2) q⟩⟩)
        simp (disch := omega) only [li_0, li_1, li_2, li_3, li_4, li_8, li_16, li_20, li_24, li_40, li_63, li_64, li_255, li_256, li_576, nI_add, pk_mul, nz_neg, nz_sub, nz_cl, nz_le, nz_lt, nz_eq, nz_in, nz_div, true_and, forall_eq, show k * 4 + cc = 4 * k + cc by omega]
        refine h _ _ (fun Φ hΦ => ?_)
        unfold wpMd_colour vcMd_colour_26 vcMd_colour_27 vcMd_colour_47
        refine ⟨fun q => absurd q (nI_n0 (by omega)), fun _ => ⟨fun q => absurd q (nI_ge q1 (by omega)), fun _ => ⟨fun q => absurd q (nI_n0 (by omega)), fun _ => ⟨fun q => absurd q (by rw [li_4]; exact nI_ge q2 (by omega)), fun _ => ?_⟩⟩⟩⟩
        refine sp_te1 n10 ⟨fun q => absurd q n10, fun _ => ?_⟩
        simp (disch := omega) only [li_0, li_1, li_2, li_3, li_4, li_8, li_16, li_20, li_24, li_40, li_63, li_64, li_255, li_256, li_576, nI_add, pk_mul, nz_neg, nz_sub, nz_cl, nz_le, nz_lt, nz_eq, nz_in, nz_div, true_and, forall_eq]
        refine hΦ _ (fun _ => ?_)
        rw [pk_uLs, (c9 k q1).2 cc q2, (c10 k q1).2 cc q2]
      · right; right
        obtain ⟨k, q1, rfl⟩ := hk
        have hno : ¬ c < 0 → ¬ c < 4 := by
          intro q1 q2
          obtain ⟨j, j1, j2⟩ := n_of q1
          rw [j2, li_4, nI_ltI (by omega) (by omega)] at q2
          exact hc ⟨j, q2, j2⟩
        refine ⟨?_, h _ _ (fun Φ hΦ => ?_)⟩
        · unfold wxCL_colour xcCL_colour_18
          exact Or.inl (sp_cpal c1 c2 (Or.inl (sp_cpc c2 q1 ⟨fun _ => rfl, fun q => ⟨fun q2 => absurd q2 (hno q), fun _ => rfl⟩⟩)))
        · unfold wpMd_colour vcMd_colour_26 vcMd_colour_27 vcMd_colour_47
          refine ⟨fun _ => ?_, fun _ => ⟨fun _ => ?_, fun _ => ⟨fun _ => ?_, fun q => ⟨fun _ => ?_, fun q2 => absurd (Int32.not_le.mp q2) (hno q)⟩⟩⟩⟩
          all_goals exact sp_te2 rfl ⟨fun _ => hΦ _ (fun q => absurd q (by decide)), fun q => absurd rfl q⟩
    · right; right
      refine ⟨?_, h _ _ (fun Φ hΦ => ?_)⟩
      · unfold wxCL_colour
        exact Or.inl (sp_cpal c1 c2 (Or.inr (sp_cpcx c2 hk)))
      · unfold wpMd_colour vcMd_colour_26 vcMd_colour_27 vcMd_colour_47
        refine ⟨fun _ => ?_, fun q => ⟨fun _ => ?_, fun q2 => absurd ?_ hk⟩⟩
        · exact sp_te2 rfl ⟨fun _ => hΦ _ (fun q => absurd q (by decide)), fun q => absurd rfl q⟩
        · exact sp_te2 rfl ⟨fun _ => hΦ _ (fun q => absurd q (by decide)), fun q => absurd rfl q⟩
        · obtain ⟨j, j1, j2⟩ := n_of q
          rw [j2, nI_leI (by omega) (by omega)] at q2
          exact ⟨j, by omega, j2⟩
theorem op_index {W H : Nat} {sa he sti sma sra oti oth plv fta msa mig mgi mpa mha : Nat → Int32} {ssz sst osz psz frd re ms mr : Int32} {fmi mrs : Nat → Int64} {out : Nat → Int64} {x y a1 a4 a5 a6 : Int32} {Ψ : Int32 → (Nat → Int64) → Prop} (hW : W ≤ 24) (hH : H ≤ 24) (hA : alk W H sa he ssz sst sti sma sra osz oti oth psz plv frd fta fmi re ms mr msa mig mgi mpa mha mrs)
    (h : ∀ e out', (∀ Φ : Int32 → Int32 → Prop, (∀ r2, (e = 0 → out' 0 = r2.toInt64) → Φ r2 e) → wpMd_index 576 a1 (nI W) (nI H) a4 a5 a6 re ms mr mha x y Φ) → Ψ e out') :
    wpLw_index (W * H) 1 (nI W) (nI H) he psz out x y Ψ := by
  have hN := wh_le hW hH
  obtain ⟨S, gv, Q, k1, k2, k3, k4, k5, k6, k7⟩ := id hA
  unfold wpLw_index
  rcases k7 with ⟨rfl, rfl⟩ | ⟨-, z, R, D, P, C, M, c1, c2, c3, rfl, rfl, rfl, c7, c8, c9, c10, c11, c12, c13, c14⟩
  · right; left
    refine ⟨by unfold wxCL_index; exact Or.inr sp_cpalx, h _ _ (fun Φ hΦ => ?_)⟩
    unfold wpMd_index vcMd_index_30
    refine sp_ip hW hH (fun _ => ?_) (fun _ => ?_)
    all_goals exact sp_te0 ⟨fun _ => hΦ _ (fun q => absurd q n10), fun q => absurd rfl q⟩
  · by_cases hp : plc W H x y
    · left
      obtain ⟨xa, yb, p1, p2, rfl, rfl⟩ := id hp
      have hpl := plc_at p1 p2
      obtain ⟨p, ep⟩ : ∃ p, p = yb * W + xa := ⟨_, rfl⟩
      rw [← ep] at hpl
      unfold wpCL_index
      refine sp_cpal c1 c2 (sp_cp hW hH hp ?_)
      unfold wpCL_placeOf
      simp (disch := omega) only [li_0, li_1, li_2, li_3, li_4, li_8, li_16, li_20, li_24, li_40, li_63, li_64, li_255, li_256, li_576, nI_add, pk_mul, nz_neg, nz_sub, nz_cl, nz_le, nz_lt, nz_eq, nz_in, nz_div, true_and, forall_eq, ← ep]
      refine h _ _ (fun Φ hΦ => ?_)
      unfold wpMd_index vcMd_index_30
      refine sp_ip hW hH (fun _ => ?_) (fun q => absurd hp q)
      refine sp_te1 n10 ⟨fun q => absurd q n10, fun _ => ?_⟩
      simp (disch := omega) only [li_0, li_1, li_2, li_3, li_4, li_8, li_16, li_20, li_24, li_40, li_63, li_64, li_255, li_256, li_576, nI_add, pk_mul, nz_neg, nz_sub, nz_cl, nz_le, nz_lt, nz_eq, nz_in, nz_div, true_and, forall_eq, Nat.mul_comm W yb, ← ep]
      refine hΦ _ (fun _ => ?_)
      obtain ⟨k, q1, q2, q3⟩ := c12 p hpl
      rw [pk_uLs, q2, q3]
    · right; right
      refine ⟨?_, h _ _ (fun Φ hΦ => ?_)⟩
      · unfold wxCL_index
        exact Or.inl (sp_cpal c1 c2 (Or.inr (sp_cpx hW hH hp)))
      · unfold wpMd_index vcMd_index_30
        refine sp_ip hW hH (fun q => absurd q hp) (fun _ => ?_)
        exact sp_te2 rfl ⟨fun _ => hΦ _ (fun q => absurd q (by decide)), fun q => absurd rfl q⟩
theorem op_nearest {W H : Nat} {sa he sti sma sra oti oth plv fta msa mig mgi mpa mha : Nat → Int32} {ssz sst osz psz frd re ms mr : Int32} {fmi mrs : Nat → Int64} {out : Nat → Int64} {bf : Nat → Int32} {r g b a a1 a4 a5 a6 : Int32} {Ψ : Int32 → (Nat → Int64) → Prop} (hA : alk W H sa he ssz sst sti sma sra osz oti oth psz plv frd fta fmi re ms mr msa mig mgi mpa mha mrs)
    (h : ∀ e out', (∀ Φ : Int32 → Int32 → (Nat → Int32) → Prop, (∀ r2 bf', (e = 0 → out' 0 = r2.toInt64) → Φ r2 e bf') → wpMd_nearest 256 256 a1 (nI W) (nI H) a4 a5 a6 re ms mr mpa bf r g b a Φ) → Ψ e out') :
    wpLw_nearest 256 1 (nI W) (nI H) psz plv out r g b a Ψ := by
  obtain ⟨S, gv, Q, k1, k2, k3, k4, k5, k6, k7⟩ := id hA
  unfold wpLw_nearest
  rcases k7 with ⟨rfl, rfl⟩ | ⟨-, z, R, D, P, C, M, c1, c2, c3, rfl, rfl, rfl, c7, c8, c9, c10, c11, c12, c13, c14⟩
  · right; left
    refine ⟨by unfold wxCL_nearest; exact Or.inr sp_cpalx, h _ _ (fun Φ hΦ => ?_)⟩
    unfold wpMd_nearest
    refine sp_ac (fun _ => ?_) (fun _ => ?_)
    all_goals exact sp_te0 ⟨fun q => absurd rfl q, fun _ => hΦ _ _ (fun q => absurd q n10)⟩
  · by_cases hl : lv4 r g b a
    · left
      obtain ⟨⟨r', r1, rfl⟩, ⟨g', g1, rfl⟩, ⟨b', b1, rfl⟩, ⟨a', d1, rfl⟩⟩ := id hl
      have hlv := lev_pk r1 g1 b1 d1
      unfold wpCL_nearest
      refine sp_cpal c1 c2 (sp_cl hl ?_)
      have cl := fun post q => sp_cl_t (t := pk4 r' g' b' a') (post := post) c1 c2 c9 q
      rw [hlv.1, hlv.2.1, hlv.2.2.1, hlv.2.2.2] at cl
      refine cl _ ⟨vp01, h _ _ (fun Φ hΦ => ?_)⟩
      unfold wpMd_nearest
      refine sp_ac (fun _ => ?_) (fun q => absurd hl q)
      refine sp_te1 n10 ⟨fun _ => ?_, fun q => absurd q n10⟩
      simp (disch := omega) only [li_0, li_1, li_2, li_3, li_4, li_8, li_16, li_20, li_24, li_40, li_63, li_64, li_255, li_256, li_576, nI_add, pk_mul, nz_neg, nz_sub, nz_cl, nz_le, nz_lt, nz_eq, nz_in, nz_div, true_and, forall_eq]
      refine sp_Md_nearestTo (t := pk4 r' g' b' a') (by omega) (by omega) (by omega) c1 (by omega) c10 (fun c hc => ?_) (fun k hk => ?_)
      · rcases co4 hc with rfl | rfl | rfl | rfl
        · rw [hlv.1]; rfl
        · rw [hlv.2.1]; rfl
        · rw [hlv.2.2.1]; rfl
        · rw [hlv.2.2.2]; rfl
      · rw [← near_of hk]
        exact hΦ _ _ (fun _ => pk_uLs)
    · right; right
      refine ⟨?_, h _ _ (fun Φ hΦ => ?_)⟩
      · unfold wxCL_nearest
        exact Or.inl (sp_cpal c1 c2 (Or.inr (sp_clx hl)))
      · unfold wpMd_nearest
        refine sp_ac (fun q => absurd q hl) (fun _ => ?_)
        exact sp_te2 rfl ⟨fun q => absurd rfl q, fun _ => hΦ _ _ (fun q => absurd q (by decide))⟩
theorem op_sum {W H : Nat} {sa he sti sma sra oti oth plv fta msa mig mgi mpa mha : Nat → Int32} {ssz sst osz psz frd re ms mr : Int32} {fmi mrs : Nat → Int64} {out : Nat → Int64} {x a1 a4 a5 a6 : Int32} {Ψ : Int32 → (Nat → Int64) → Prop} (hA : alk W H sa he ssz sst sti sma sra osz oti oth psz plv frd fta fmi re ms mr msa mig mgi mpa mha mrs)
    (h : ∀ e out', (∀ Φ : Int64 → Int32 → Prop, (∀ r2, (e = 0 → out' 0 = r2) → Φ r2 e) → wpMd_sum 21 a1 (nI W) (nI H) a4 a5 a6 re ms mr mrs x Φ) → Ψ e out') :
    wpLw_sum 21 1 (nI W) (nI H) psz frd fmi out x Ψ := by
  obtain ⟨S, gv, Q, k1, k2, k3, k4, k5, k6, k7⟩ := id hA
  unfold wpLw_sum
  rcases k7 with ⟨rfl, rfl⟩ | ⟨-, z, R, D, P, C, M, c1, c2, c3, rfl, rfl, rfl, rfl, rfl, c9, c10, c11, c12, c13, c14⟩
  · right; left
    refine ⟨by unfold wxCL_sum; exact Or.inr sp_cpalx, h _ _ (fun Φ hΦ => ?_)⟩
    unfold wpMd_sum vcMd_sum_17 vcMd_sum_18 vcMd_sum_34
    refine ⟨fun _ => ?_, fun _ => ⟨fun _ => ?_, fun _ => ?_⟩⟩
    all_goals exact sp_te0 ⟨fun _ => hΦ _ (fun q => absurd q n10), fun q => absurd rfl q⟩
  · by_cases hk : ∃ k, k ≤ R ∧ x = nI k
    · obtain ⟨k, q1, rfl⟩ := hk
      left
      unfold wpCL_sum
      refine sp_cpal c1 c2 ⟨fun q => absurd q (nI_n0 (by omega)), fun _ => ⟨fun _ => ?_, fun q => absurd (nI_le q1 (by omega)) q⟩⟩
      simp (disch := omega) only [li_0, li_1, li_2, li_3, li_4, li_8, li_16, li_20, li_24, li_40, li_63, li_64, li_255, li_256, li_576, nI_add, pk_mul, nz_neg, nz_sub, nz_cl, nz_le, nz_lt, nz_eq, nz_in, nz_div, true_and, forall_eq]
      refine h _ _ (fun Φ hΦ => ?_)
      unfold wpMd_sum vcMd_sum_17 vcMd_sum_18 vcMd_sum_34
      refine ⟨fun q => absurd q (nI_n0 (by omega)), fun _ => ⟨fun q => absurd q (Int32.not_lt.mpr (nI_le q1 (by omega))), fun _ => ?_⟩⟩
      refine sp_te1 n10 ⟨fun q => absurd q n10, fun _ => ?_⟩
      simp (disch := omega) only [li_0, li_1, li_2, li_3, li_4, li_8, li_16, li_20, li_24, li_40, li_63, li_64, li_255, li_256, li_576, nI_add, pk_mul, nz_neg, nz_sub, nz_cl, nz_le, nz_lt, nz_eq, nz_in, nz_div, true_and, forall_eq]
      refine hΦ _ (fun _ => ?_)
      rw [pk_uLs, c11 k q1]
    · right; right
      have hno : ¬ x < 0 → ¬ x ≤ nI R := by
        intro q1 q2
        obtain ⟨j, j1, j2⟩ := n_of q1
        rw [j2, nI_leI (by omega) (by omega)] at q2
        exact hk ⟨j, q2, j2⟩
      refine ⟨?_, h _ _ (fun Φ hΦ => ?_)⟩
      · unfold wxCL_sum xcCL_sum_19
        exact Or.inl (sp_cpal c1 c2 ⟨fun _ => rfl, fun q => ⟨fun q2 => absurd q2 (hno q), fun _ => rfl⟩⟩)
      · unfold wpMd_sum vcMd_sum_17 vcMd_sum_18 vcMd_sum_34
        refine ⟨fun _ => ?_, fun q => ⟨fun _ => ?_, fun q2 => absurd (Int32.not_lt.mp q2) (hno q)⟩⟩
        all_goals exact sp_te2 rfl ⟨fun _ => hΦ _ (fun q => absurd q (by decide)), fun q => absurd rfl q⟩
theorem op_count {W H : Nat} {sa he sti sma sra oti oth plv fta msa mig mgi mpa mha : Nat → Int32} {ssz sst osz psz frd re ms mr : Int32} {fmi mrs : Nat → Int64} {out : Nat → Int64} {x a1 a4 a5 a6 : Int32} {Ψ : Int32 → (Nat → Int64) → Prop} (hW : W ≤ 24) (hH : H ≤ 24) (hA : alk W H sa he ssz sst sti sma sra osz oti oth psz plv frd fta fmi re ms mr msa mig mgi mpa mha mrs)
    (h : ∀ e out', (∀ Φ : Int32 → Int32 → Prop, (∀ r2, (e = 0 → out' 0 = r2.toInt64) → Φ r2 e) → wpMd_count 576 a1 (nI W) (nI H) a4 a5 a6 re ms mr mha x Φ) → Ψ e out') :
    wpLw_count (W * H) 1 (nI W) (nI H) he psz out x Ψ := by
  have hN := wh_le hW hH
  obtain ⟨S, gv, Q, k1, k2, k3, k4, k5, k6, k7⟩ := id hA
  unfold wpLw_count
  rcases k7 with ⟨rfl, rfl⟩ | ⟨-, z, R, D, P, C, M, c1, c2, c3, rfl, rfl, rfl, c7, c8, c9, c10, c11, c12, c13, c14⟩
  · right; left
    refine ⟨by unfold wxCL_count; exact Or.inr sp_cpalx, h _ _ (fun Φ hΦ => ?_)⟩
    unfold wpMd_count vcMd_count_17 vcMd_count_18
    intro K hK
    refine ⟨fun _ => ?_, fun _ => ⟨fun _ => ?_, fun _ => ?_⟩⟩
    all_goals exact sp_te0 ⟨fun q => absurd rfl q, fun _ => hΦ _ (fun q => absurd q n10)⟩
  · by_cases hk : ∃ k, k < z ∧ x = nI k
    · left
      obtain ⟨k, q1, rfl⟩ := hk
      obtain ⟨N, eN⟩ : ∃ N, N = W * H := ⟨_, rfl⟩
      have cs : ∀ (f : Nat → Int32) (p : Nat), cnt (p + 1) (fun p => decide (f p = nI k)) = cnt p (fun p => decide (f p = nI k)) + (if decide (f p = nI k) = true then 1 else 0) := fun f p => rfl
      have model : Ψ 0 (vp_updL out 0 (nI (cnt N (fun p => decide (he p = nI k)))).toInt64) := by
        refine h _ _ (fun Φ hΦ => ?_)
        unfold wpMd_count vcMd_count_17 vcMd_count_18
        intro K hK
        refine ⟨fun q => absurd q (nI_n0 (by omega)), fun _ => ⟨fun q => absurd q (nI_ge q1 (by omega)), fun _ => sp_te1 n10 ⟨fun _ => ?_, fun q => absurd q n10⟩⟩⟩
        have loop : ∀ (d p : Nat), p + d = N → K (nI (cnt p (fun p => decide (mha p = nI k)))) (nI p) 0 := by
          intro d
          induction d with
          | zero =>
            intro p hp
            have : p = N := by omega
            subst this
            apply hK
            unfold vcMd_count_30
            rw [pk_mul, ← eN]
            refine ⟨fun _ => hΦ _ (fun _ => ?_), fun q => absurd (nI_le (Nat.le_refl _) (by omega)) q⟩
            rw [pk_uLs, cnt_congr (f := fun p => decide (he p = nI k)) (g := fun p => decide (mha p = nI k)) (fun p hp => by
              obtain ⟨j, -, e1, e2⟩ := c12 p (by omega)
              try dsimp only
              rw [e1, e2])]
          | succ d ih =>
            intro p hp
            have := ih (p + 1) (by omega)
            rw [cs] at this
            apply hK
            unfold vcMd_count_30 vcMd_count_59
            rw [pk_mul, ← eN]
            refine ⟨fun q => absurd q (nI_ge (by omega) (by omega)), fun _ => ⟨vp_in_nI (by omega) (by omega), fun q v hv => ?_, fun q v hv => ?_⟩⟩
            · rw [nz_cl (by omega)] at q
              rw [if_neg (by rw [decide_eq_true_iff]; exact q)] at this
              rw [hv, li_0, nI_add, nI_1]
              exact this
            · rw [nz_cl (by omega)] at q
              rw [if_pos (by rw [decide_eq_true_iff]; exact q)] at this
              rw [hv, li_1, nI_add, nI_add]
              exact this
        exact loop N 0 (by omega)
      unfold wpCL_count
      intro K hK
      refine sp_cpal c1 c2 (sp_cpc c2 q1 ?_)
      have loop : ∀ (d p : Nat), p + d = N → K (nI (cnt p (fun p => decide (he p = nI k)))) (nI p) := by
        intro d
        induction d with
        | zero =>
          intro p hp
          have : p = N := by omega
          subst this
          apply hK
          unfold vcCL_count_13
          rw [← eN]
          exact ⟨fun _ => ⟨vp01, model⟩, fun q => absurd (nI_le (Nat.le_refl _) (by omega)) q⟩
        | succ d ih =>
          intro p hp
          have := ih (p + 1) (by omega)
          rw [cs] at this
          apply hK
          unfold vcCL_count_13 vcCL_count_35
          rw [← eN]
          refine ⟨fun q => absurd q (nI_ge (by omega) (by omega)), fun _ => ⟨vp_in_nI (by omega) (by omega), fun q => ?_, fun q => ?_⟩⟩
          · rw [nz_cl (by omega)] at q
            rw [if_neg (by rw [decide_eq_true_iff]; exact q), Nat.add_zero] at this
            rw [nI_1]
            exact this
          · rw [nz_cl (by omega)] at q
            rw [if_pos (by rw [decide_eq_true_iff]; exact q)] at this
            rw [nI_1, nI_1]
            exact this
      exact loop N 0 (by omega)
    · right; right
      refine ⟨?_, h _ _ (fun Φ hΦ => ?_)⟩
      · unfold wxCL_count
        exact Or.inl (sp_cpal c1 c2 (Or.inr (sp_cpcx c2 hk)))
      · unfold wpMd_count vcMd_count_17 vcMd_count_18
        intro K hK
        refine ⟨fun _ => ?_, fun q => ⟨fun _ => ?_, fun q2 => absurd ?_ hk⟩⟩
        · exact sp_te2 rfl ⟨fun q => absurd rfl q, fun _ => hΦ _ (fun q => absurd q (by decide))⟩
        · exact sp_te2 rfl ⟨fun q => absurd rfl q, fun _ => hΦ _ (fun q => absurd q (by decide))⟩
        · obtain ⟨j, j1, j2⟩ := n_of q
          rw [j2, nI_leI (by omega) (by omega)] at q2
          exact ⟨j, by omega, j2⟩
theorem op_exact {W H : Nat} {sa he sti sma sra oti oth plv fta msa mig mgi mpa mha : Nat → Int32} {ssz sst osz psz frd re ms mr : Int32} {fmi mrs : Nat → Int64} {out : Nat → Int64} {a1 a4 a5 a6 : Int32} {Ψ : Int32 → (Nat → Int64) → Prop} (hW : W ≤ 24) (hH : H ≤ 24) (hA : alk W H sa he ssz sst sti sma sra osz oti oth psz plv frd fta fmi re ms mr msa mig mgi mpa mha mrs)
    (h : ∀ e out', (∀ Φ : Int32 → Int32 → Prop, (∀ r2, (e = 0 → out' 0 = if r2 = 0 then 0 else 1) → Φ r2 e) → wpMd_exact 2304 256 576 a1 (nI W) (nI H) a4 a5 a6 re ms mr msa mpa mha Φ) → Ψ e out') :
    wpLw_exact (W * H) (W * H) 256 1 (nI W) (nI H) sa he psz plv out Ψ := by
  have hN := wh_le hW hH
  obtain ⟨S, gv, Q, k1, k2, k3, k4, k5, k6, k7⟩ := id hA
  unfold wpLw_exact vcLw_exact_14
  rcases k7 with ⟨rfl, rfl⟩ | ⟨-, z, R, D, P, C, M, c1, c2, c3, rfl, rfl, rfl, c7, c8, c9, c10, c11, c12, c13, c14⟩
  · right
    refine ⟨by unfold wxCL_exact; exact Or.inr sp_cpalx, h _ _ (fun Φ hΦ => ?_)⟩
    unfold wpMd_exact
    intro K hK
    refine sp_te0 ?_
    apply hK
    unfold vcMd_exact_8 vcMd_exact_62
    exact ⟨fun _ => ⟨rfl, hΦ _ (fun q => absurd q n10)⟩, fun _ => ⟨fun _ => ⟨rfl, hΦ _ (fun q => absurd q n10)⟩, fun q => absurd rfl q⟩⟩
  · left
    obtain ⟨N, eN⟩ : ∃ N, N = W * H := ⟨_, rfl⟩
    rw [← eN] at k1 k2 c12 hN ⊢
    obtain ⟨hk, ehk⟩ : ∃ hk : Nat → Nat, hk = fun p => (he p).toNatClampNeg := ⟨_, rfl⟩
    have hh : ∀ p, p < N → hk p < z ∧ he p = nI (hk p) ∧ mha p = nI (hk p) := by
      intro p hp
      obtain ⟨j, j1, j2, j3⟩ := c12 p hp
      have : hk p = j := by rw [ehk]; show (he p).toNatClampNeg = j; rw [j2, nz_cl (by omega)]
      rw [this]
      exact ⟨j1, j2, j3⟩
    have model : ∀ v : Int64, (v = 1 ∧ (∀ p, p < N → S p = P (hk p)) ∨ v = 0 ∧ ¬ ∀ p, p < N → S p = P (hk p)) → Ψ 0 (vp_updL out 0 v) := by
      intro v hv
      refine h _ _ (fun Φ hΦ => ?_)
      unfold wpMd_exact
      intro K hK
      refine sp_te1 n10 ?_
      have fin : ∀ r2 : Int32, (r2 = 1 ∧ (∀ p, p < N → S p = P (hk p)) ∨ r2 = 0 ∧ ¬ ∀ p, p < N → S p = P (hk p)) → Φ r2 0 := by
        intro r2 hr
        refine hΦ _ (fun _ => ?_)
        rw [pk_uLs]
        rcases hv with ⟨e1, e2⟩ | ⟨e1, e2⟩ <;> rcases hr with ⟨e3, e4⟩ | ⟨e3, e4⟩
        · rw [e1, e3, if_neg n10]
        · exact absurd e2 e4
        · exact absurd e4 e2
        · rw [e1, e3, if_pos rfl]
      have none : ∀ p, (¬ ∀ p, p < N → S p = P (hk p)) → K 0 (nI p) 0 := by
        intro p hno
        apply hK
        unfold vcMd_exact_8 vcMd_exact_62
        exact ⟨fun _ => ⟨rfl, fin 0 (Or.inr ⟨rfl, hno⟩)⟩, fun _ => ⟨fun _ => ⟨rfl, fin 0 (Or.inr ⟨rfl, hno⟩)⟩, fun q => absurd rfl q⟩⟩
      have loop : ∀ (d p : Nat), p + d = N → (∀ q, q < p → S q = P (hk q)) → K 1 (nI p) 0 := by
        intro d
        induction d with
        | zero =>
          intro p hp hq
          have : p = N := by omega
          subst this
          apply hK
          unfold vcMd_exact_8 vcMd_exact_62
          rw [pk_mul, ← eN]
          exact ⟨fun _ => ⟨rfl, fin 1 (Or.inl ⟨rfl, hq⟩)⟩, fun q => absurd (nI_le (Nat.le_refl _) (by omega)) q⟩
        | succ d ih =>
          intro p hp hq
          obtain ⟨h1, h2, h3⟩ := hh p (by omega)
          apply hK
          unfold vcMd_exact_8 vcMd_exact_55
          rw [pk_mul, ← eN, nz_cl (by omega), h3, li_4, pk_mul, pk_mul, nI_1]
          refine ⟨fun q => absurd q (nI_ge (by omega) (by omega)), fun _ => ⟨fun q => absurd q n10, fun _ => ⟨vp_in_nI (by omega) (by omega), ?_⟩⟩⟩
          refine sp_Md_compare (by omega) (by omega) (by omega) (by omega) (c10 _ h1).1 (k1 p (by omega)).1 (chs_A c10 h1) (chs_A k2 (by omega)) (fun q => ?_) (fun q r hr => ?_) (fun q r hr => ?_)
          · refine ⟨fun q2 => absurd rfl q2, fun _ => ih (p + 1) (by omega) (fun i hi => ?_)⟩
            by_cases c : i = p
            · rw [c, q]
            · exact hq i (by omega)
          · exact ⟨fun _ => none _ (fun z => absurd (z p (by omega)) (by omega)), fun q2 => absurd hr (by rw [q2]; decide)⟩
          · exact ⟨fun _ => none _ (fun z => absurd (z p (by omega)) (by omega)), fun q2 => absurd hr (by rw [q2]; decide)⟩
      exact loop N 0 (by omega) (fun q hq => absurd hq (Nat.not_lt_zero _))
    unfold wpCL_exact
    intro K hK
    refine sp_cpal c1 c2 ?_
    have loop : ∀ (d p : Nat), p + d = N → (∀ q, q < p → S q = P (hk q)) → K (nI p) := by
      intro d
      induction d with
      | zero =>
        intro p hp hq
        have : p = N := by omega
        subst this
        apply hK
        unfold vcCL_exact_6
        exact ⟨fun _ => ⟨rfl, fun q => absurd q n10, fun _ => ⟨vp01, model 1 (Or.inl ⟨rfl, hq⟩)⟩⟩, fun q => absurd (nI_le (Nat.le_refl _) (by omega)) q⟩
      | succ d ih =>
        intro p hp hq
        obtain ⟨h1, h2, h3⟩ := hh p (by omega)
        obtain ⟨s1, s2⟩ := k1 p (by omega)
        apply hK
        unfold vcCL_exact_6
        rw [nz_cl (by omega), h2, s2, nI_1]
        refine ⟨fun q => absurd q (nI_ge (by omega) (by omega)), fun _ => ⟨vp_in_nI (by omega) (by omega), vp_in_nI (by omega) (by omega), ?_⟩⟩
        refine sp_packedOf (by omega) h1 (by omega) c9 ⟨fun q => ih (p + 1) (by omega) (fun i hi => ?_), fun q => ⟨rfl, fun _ => ⟨vp01, model 0 (Or.inr ⟨rfl, fun z => q ?_⟩)⟩, fun q2 => absurd rfl q2⟩⟩
        · by_cases c : i = p
          · rw [c]; exact (nI_eq32 s1 (c9 _ h1).1).mp q
          · exact hq i (by omega)
        · rw [z p (by omega)]
    exact loop N 0 (by omega) (fun q hq => absurd hq (Nat.not_lt_zero _))
