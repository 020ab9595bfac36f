/-! what is asked of arguments -/
theorem n_of {x : Int32} (h : ¬ x < 0) : ∃ j : Nat, j < 2147483648 ∧ x = nI j := by
  rw [Int32.lt_iff_toInt_lt, Int32.toInt_zero] at h
  have h2 := Int32.toInt_lt x
  refine ⟨x.toInt.toNat, by omega, ?_⟩
  rw [jI_n, Int.toNat_of_nonneg (by omega)]
  exact jI_of x
theorem i32_or (x : Int32) : x < 0 ∨ ∃ n, n < 2147483648 ∧ x = nI n := by
  by_cases h : x < 0
  · exact Or.inl h
  · obtain ⟨j, h1, h2⟩ := n_of h
    exact Or.inr ⟨j, by omega, h2⟩
def plc (W H : Nat) (x y : Int32) : Prop := ∃ a b, a < W ∧ b < H ∧ x = nI a ∧ y = nI b
theorem nI_n0 {a : Nat} (h : a < 2147483648) : ¬ nI a < 0 := nI_pos (by omega)
theorem sp_cp {W H : Nat} {x y : Int32} {post : Prop} (hW : W ≤ 24) (hH : H ≤ 24) (hp : plc W H x y) (h : post) : wpCL_checkPlace (nI W) (nI H) x y post := by
  obtain ⟨a, b, h1, h2, rfl, rfl⟩ := hp
  unfold wpCL_checkPlace
  refine ⟨fun q => absurd q (nI_n0 (by omega)), fun _ => ⟨fun q => absurd q (nI_ge h1 (by omega)), fun _ => ⟨fun q => absurd q (nI_n0 (by omega)), fun _ => ⟨fun _ => h, fun q => absurd ?_ q⟩⟩⟩⟩
  exact (nI_ltI (by omega) (by omega)).mpr h2
theorem sp_cpx {W H : Nat} {x y : Int32} (hW : W ≤ 24) (hH : H ≤ 24) (hp : ¬ plc W H x y) : wxCL_checkPlace (nI W) (nI H) x y "java/lang/IndexOutOfBoundsException" := by
  unfold wxCL_checkPlace xcCL_checkPlace_24
  refine ⟨fun _ => rfl, fun q1 => ⟨fun _ => rfl, fun q2 => ⟨fun _ => rfl, fun q3 => ⟨fun q4 => hp ?_, fun _ => rfl⟩⟩⟩⟩
  obtain ⟨a, a1, a2⟩ := n_of q1
  obtain ⟨b, b1, b2⟩ := n_of q3
  rw [a2] at q2
  rw [b2] at q4
  rw [nI_leI (by omega) (by omega)] at q2
  rw [nI_ltI (by omega) (by omega)] at q4
  exact ⟨a, b, by omega, q4, a2, b2⟩
theorem sp_ip {W H : Nat} {x y : Int32} {a1 a2 a3 a4 a5 a6 a7 : Int32} {post : Int32 → Prop} (hW : W ≤ 24) (hH : H ≤ 24) (h1 : plc W H x y → post 1) (h0 : ¬ plc W H x y → post 0) : wpMd_isPlace a1 (nI W) (nI H) a2 a3 a4 a5 a6 a7 x y post := by
  have no : ¬ plc W H x y → vcMd_isPlace_28 a1 (nI W) (nI H) a2 a3 a4 a5 a6 a7 x y post := by
    intro q
    unfold vcMd_isPlace_28 vcMd_isPlace_29
    exact ⟨rfl, h0 q⟩
  unfold wpMd_isPlace vcMd_isPlace_29
  refine ⟨fun q => no ?_, fun q1 => ⟨fun q => no ?_, fun q2 => ⟨fun q => no ?_, fun q3 => ⟨fun q => no ?_, fun q4 => ⟨rfl, h1 ?_⟩⟩⟩⟩⟩
  · rintro ⟨a, b, c1, c2, rfl, rfl⟩
    exact nI_n0 (by omega) q
  · rintro ⟨a, b, c1, c2, rfl, rfl⟩
    exact nI_ge c1 (by omega) q
  · rintro ⟨a, b, c1, c2, rfl, rfl⟩
    exact nI_n0 (by omega) q
  · rintro ⟨a, b, c1, c2, rfl, rfl⟩
    exact nI_ge c2 (by omega) q
  · obtain ⟨a, a1, a2⟩ := n_of q1
    obtain ⟨b, b1, b2⟩ := n_of q3
    rw [a2, nI_leI (by omega) (by omega)] at q2
    rw [b2, nI_leI (by omega) (by omega)] at q4
    exact ⟨a, b, by omega, by omega, a2, b2⟩
def lvl (x : Int32) : Prop := ∃ n, n < 256 ∧ x = nI n
theorem sp_lv {x : Int32} {post : Int32 → Prop} (h1 : lvl x → post 1) (h0 : ¬ lvl x → post 0) : wpCL_isLevel x post := by
  unfold wpCL_isLevel vcCL_isLevel_15 vcCL_isLevel_16
  refine ⟨fun q => ⟨rfl, h0 ?_⟩, fun q1 => ⟨fun q => ⟨rfl, h0 ?_⟩, fun q2 => ⟨rfl, h1 ?_⟩⟩⟩
  · rintro ⟨n, n1, rfl⟩
    exact nI_n0 (by omega) q
  · rintro ⟨n, n1, rfl⟩
    rw [li_255, nI_ltI (by omega) (by omega)] at q
    omega
  · obtain ⟨a, a1, a2⟩ := n_of q1
    rw [a2, li_255, nI_ltI (by omega) (by omega)] at q2
    exact ⟨a, by omega, a2⟩
theorem sp_ch {x : Int32} {post : Int32 → Prop} (h1 : lvl x → post 1) (h0 : ¬ lvl x → post 0) : wpMd_isChannel x post := by
  unfold wpMd_isChannel vcMd_isChannel_15 vcMd_isChannel_16
  refine ⟨fun q => ⟨rfl, h0 ?_⟩, fun q1 => ⟨fun q => ⟨rfl, h0 ?_⟩, fun q2 => ⟨rfl, h1 ?_⟩⟩⟩
  · rintro ⟨n, n1, rfl⟩
    exact nI_n0 (by omega) q
  · rintro ⟨n, n1, rfl⟩
    rw [li_255, nI_ltI (by omega) (by omega)] at q
    omega
  · obtain ⟨a, a1, a2⟩ := n_of q1
    rw [a2, li_255, nI_ltI (by omega) (by omega)] at q2
    exact ⟨a, by omega, a2⟩
def lv4 (r g b a : Int32) : Prop := lvl r ∧ lvl g ∧ lvl b ∧ lvl a
theorem n10 : ¬ (1 : Int32) = 0 := by decide
theorem sp_cl {r g b a : Int32} {post : Prop} (hl : lv4 r g b a) (h : post) : wpCL_checkLevels r g b a post := by
  obtain ⟨l1, l2, l3, l4⟩ := hl
  unfold wpCL_checkLevels
  refine sp_lv (fun _ => ⟨fun q => absurd q n10, fun _ => ?_⟩) (fun q => absurd l1 q)
  refine sp_lv (fun _ => ⟨fun q => absurd q n10, fun _ => ?_⟩) (fun q => absurd l2 q)
  refine sp_lv (fun _ => ⟨fun q => absurd q n10, fun _ => ?_⟩) (fun q => absurd l3 q)
  exact sp_lv (fun _ => ⟨fun _ => h, fun q => absurd q n10⟩) (fun q => absurd l4 q)
theorem sp_clx {r g b a : Int32} (hl : ¬ lv4 r g b a) : wxCL_checkLevels r g b a "java/lang/IllegalArgumentException" := by
  unfold wxCL_checkLevels xcCL_checkLevels_28
  refine sp_lv (fun l1 => ⟨fun q => absurd q n10, fun _ => ?_⟩) (fun _ => ⟨fun _ => rfl, fun q => absurd rfl q⟩)
  refine sp_lv (fun l2 => ⟨fun q => absurd q n10, fun _ => ?_⟩) (fun _ => ⟨fun _ => rfl, fun q => absurd rfl q⟩)
  refine sp_lv (fun l3 => ⟨fun q => absurd q n10, fun _ => ?_⟩) (fun _ => ⟨fun _ => rfl, fun q => absurd rfl q⟩)
  exact sp_lv (fun l4 => ⟨fun _ => hl ⟨l1, l2, l3, l4⟩, fun q => absurd q n10⟩) (fun _ => ⟨fun q => absurd rfl q, fun _ => rfl⟩)
theorem sp_ac {r g b a : Int32} {post : Int32 → Prop} (h1 : lv4 r g b a → post 1) (h0 : ¬ lv4 r g b a → post 0) : wpMd_areChannels r g b a post := by
  unfold wpMd_areChannels vcMd_areChannels_32 vcMd_areChannels_33
  refine sp_ch (fun l1 => ⟨fun q => absurd q n10, fun _ => ?_⟩) (fun q => ⟨fun _ => ⟨rfl, h0 (fun z => q z.1)⟩, fun q => absurd rfl q⟩)
  refine sp_ch (fun l2 => ⟨fun q => absurd q n10, fun _ => ?_⟩) (fun q => ⟨fun _ => ⟨rfl, h0 (fun z => q z.2.1)⟩, fun q => absurd rfl q⟩)
  refine sp_ch (fun l3 => ⟨fun q => absurd q n10, fun _ => ?_⟩) (fun q => ⟨fun _ => ⟨rfl, h0 (fun z => q z.2.2.1)⟩, fun q => absurd rfl q⟩)
  exact sp_ch (fun l4 => ⟨fun q => absurd q n10, fun _ => ⟨rfl, h1 ⟨l1, l2, l3, l4⟩⟩⟩) (fun q => ⟨fun _ => ⟨rfl, h0 (fun z => q z.2.2.2)⟩, fun q => absurd rfl q⟩)
theorem sp_te0 {a1 a2 a3 a4 a5 a6 a8 a9 x : Int32} {post : Int32 → Int32 → Prop} (h : post 0 1) : wpMd_tells a1 a2 a3 a4 a5 a6 0 a8 a9 x post := by
  unfold wpMd_tells vcMd_tells_21 vcMd_tells_36
  exact ⟨fun q => absurd rfl q, fun _ => ⟨fun _ => ⟨rfl, h⟩, fun q => absurd q n10⟩⟩
theorem sp_te2 {a1 a2 a3 a4 a5 a6 a8 a9 x : Int32} {post : Int32 → Int32 → Prop} (hx : x = 0) (h : post 0 2) : wpMd_tells a1 a2 a3 a4 a5 a6 1 a8 a9 x post := by
  unfold wpMd_tells vcMd_tells_21 vcMd_tells_36
  exact ⟨fun _ => ⟨fun _ => ⟨fun _ => ⟨rfl, h⟩, fun q => absurd q (by decide)⟩, fun q => absurd hx q⟩, fun q => absurd q n10⟩
theorem sp_te1 {a1 a2 a3 a4 a5 a6 a8 a9 x : Int32} {post : Int32 → Int32 → Prop} (hx : ¬ x = 0) (h : post 1 0) : wpMd_tells a1 a2 a3 a4 a5 a6 1 a8 a9 x post := by
  unfold wpMd_tells vcMd_tells_21 vcMd_tells_36
  exact ⟨fun _ => ⟨fun q => absurd q hx, fun _ => ⟨fun q => absurd rfl q, fun _ => ⟨rfl, h⟩⟩⟩, fun q => absurd q n10⟩
/-! class and model alike -/
def alk (W H : Nat) (sa he : Nat → Int32) (ssz sst : Int32) (sti sma sra : Nat → Int32) (osz : Int32) (oti oth : Nat → Int32) (psz : Int32) (plv : Nat → Int32) (frd : Int32) (fta : Nat → Int32) (fmi : Nat → Int64) (re ms mr : Int32) (msa mig mgi mpa mha : Nat → Int32) (mrs : Nat → Int64) : Prop :=
  ∃ (S : Nat → Nat) (g : Nat → Bool) (Q : Nat → Nat), (∀ p, p < W * H → S p < 4294967296 ∧ sa p = nI (S p)) ∧ chs msa (W * H) S ∧ ofOK g Q oti oth ∧ moOK g Q mig mgi ∧ osz = nI (cnt 64 g) ∧ (sst = 0 → gaOK (W * H) S ssz sti sma sra) ∧
    ((psz = 0 ∧ re = 0) ∨ (sst = 0 ∧ ∃ (z R D : Nat) (P C M : Nat → Nat), 0 < z ∧ z ≤ 64 ∧ R ≤ 20 ∧ psz = nI z ∧ re = 1 ∧ ms = nI z ∧ frd = nI R ∧ mr = nI R ∧ chs plv z P ∧ chs mpa z P ∧ (∀ i, i ≤ R → fmi i = mrs i) ∧ (∀ p, p < W * H → ∃ k, k < z ∧ he p = nI k ∧ mha p = nI k) ∧ shOK (W * H) S D C M ∧ ∀ k, k < D → fta k = nI (near z P (C k))))
theorem plc_at {W H a b : Nat} (h1 : a < W) (h2 : b < H) : b * W + a < W * H := by
  have h3 := Nat.mul_le_mul_right W (show b + 1 ≤ H by omega)
  have e1 : (b + 1) * W = b * W + W := Nat.succ_mul b W
  have e2 : W * H = H * W := Nat.mul_comm W H
  omega
theorem wh_le {W H : Nat} (hW : W ≤ 24) (hH : H ≤ 24) : W * H ≤ 576 := Nat.mul_le_mul hW hH
