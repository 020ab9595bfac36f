def zNw : List Cond := [.methodLinkNest "ColourLessen" 45 ⟨"ColourLessen$Pools", "<init>", "()V"⟩ "ColourLessen", .methodLinkNest "ColourLessen" 52 ⟨"ColourLessen$Offer", "<init>", "()V"⟩ "ColourLessen", .methodLinkNest "ColourLessen" 59 ⟨"ColourLessen$Palette", "<init>", "()V"⟩ "ColourLessen", .methodLinkNest "ColourLessen$Shades" 35 ⟨"ColourLessen", "sortKeys", "([JII)V"⟩ "ColourLessen", .castable "java/lang/IndexOutOfBoundsException" "java/lang/IndexOutOfBoundsException", .declares ⟨"java/lang/RuntimeException", "<init>", "()V"⟩, .declares ⟨"java/lang/RuntimeException", "<init>", "(Ljava/lang/String;)V"⟩, .declares ⟨"java/lang/Exception", "<init>", "()V"⟩, .declares ⟨"java/lang/Exception", "<init>", "(Ljava/lang/String;)V"⟩, .declares ⟨"java/lang/Throwable", "<init>", "()V"⟩, .declares ⟨"java/lang/Throwable", "<init>", "(Ljava/lang/String;)V"⟩, .castable "java/lang/IllegalArgumentException" "java/lang/IllegalArgumentException", .methodLinkNest "ColourLessen$Palette" 23 ⟨"ColourLessen", "levelOf", "(II)I"⟩ "ColourLessen", .methodLinkNest "ColourLessen$Boxes" 72 ⟨"ColourLessen", "levelOf", "(II)I"⟩ "ColourLessen", .methodLinkNest "ColourLessen$Boxes" 88 ⟨"ColourLessen", "sortKeys", "([JII)V"⟩ "ColourLessen", .methodLinkNest "ColourLessen$Pools" 37 ⟨"ColourLessen", "levelOf", "(II)I"⟩ "ColourLessen", .methodLinkNest "ColourLessen$Pools" 43 ⟨"ColourLessen", "packed", "(IIII)I"⟩ "ColourLessen", .methodLinkNest "ColourLessen$Pools" 72 ⟨"ColourLessen", "farApart", "(II)I"⟩ "ColourLessen", .methodLinkNest "ColourLessen$Fitting" 77 ⟨"ColourLessen", "levelOf", "(II)I"⟩ "ColourLessen", .methodLinkNest "ColourLessen$Palette" 34 ⟨"ColourLessen", "square", "(I)I"⟩ "ColourLessen", .methodLinkNest "ColourLessen$Palette" 27 ⟨"ColourLessen", "packed", "(IIII)I"⟩ "ColourLessen", .methodLinkNest "ColourLessen$Fitting" 84 ⟨"ColourLessen", "farApart", "(II)I"⟩ "ColourLessen", .methodLinkNest "ColourLessen$Fitting" 66 ⟨"ColourLessen", "sortKeys", "([JII)V"⟩ "ColourLessen", .castable "java/lang/IllegalStateException" "java/lang/IllegalStateException", .methodLinkNest "ColourLessen$Carry" 27 ⟨"ColourLessen", "levelOf", "(II)I"⟩ "ColourLessen", .methodLinkNest "ColourLessen$Carry" 44 ⟨"ColourLessen", "within", "(III)I"⟩ "ColourLessen"]
def zSr : List (String × Nat × String) := [("ColourLessen", 203, "no such place of the picture"), ("ColourLessen", 216, "a channel is not 0 .. 255"), ("ColourLessen", 99, "a number of samples below 0"), ("ColourLessen", 112, "no such way"), ("ColourLessen", 114, "colours are not 1 .. 64"), ("ColourLessen", 116, "rounds are not 0 .. 20"), ("ColourLessen", 121, "nothing was given"), ("ColourLessen", 147, "no such place to give a colour for"), ("ColourLessen", 207, "there is no palette"), ("ColourLessen", 210, "no such place of the palette"), ("ColourLessen", 162, "no such channel"), ("ColourLessen", 173, "no such round"), ("ColourLessen", 179, "no such kind")]
def zNc : List (String × String) := [("ColourLessen", "java/lang/IndexOutOfBoundsException"), ("ColourLessen$Shades", "java/lang/IndexOutOfBoundsException"), ("ColourLessen$Boxes", "java/lang/IndexOutOfBoundsException"), ("ColourLessen$Pools", "java/lang/IndexOutOfBoundsException"), ("ColourLessen$Offer", "java/lang/IndexOutOfBoundsException"), ("ColourLessen$Palette", "java/lang/IndexOutOfBoundsException"), ("ColourLessen$Fitting", "java/lang/IndexOutOfBoundsException"), ("ColourLessen$Carry", "java/lang/IndexOutOfBoundsException"), ("ColourLessenModel", "java/lang/IndexOutOfBoundsException"), ("java/lang/IllegalArgumentException", "java/lang/IndexOutOfBoundsException"), ("java/lang/IllegalStateException", "java/lang/IndexOutOfBoundsException"), ("ColourLessen", "java/lang/IllegalArgumentException"), ("ColourLessen$Shades", "java/lang/IllegalArgumentException"), ("ColourLessen$Boxes", "java/lang/IllegalArgumentException"), ("ColourLessen$Pools", "java/lang/IllegalArgumentException"), ("ColourLessen$Offer", "java/lang/IllegalArgumentException"), ("ColourLessen$Palette", "java/lang/IllegalArgumentException"), ("ColourLessen$Fitting", "java/lang/IllegalArgumentException"), ("ColourLessen$Carry", "java/lang/IllegalArgumentException"), ("ColourLessenModel", "java/lang/IllegalArgumentException"), ("java/lang/IndexOutOfBoundsException", "java/lang/IllegalArgumentException"), ("java/lang/IllegalStateException", "java/lang/IllegalArgumentException"), ("ColourLessen", "java/lang/IllegalStateException"), ("ColourLessen$Shades", "java/lang/IllegalStateException"), ("ColourLessen$Boxes", "java/lang/IllegalStateException"), ("ColourLessen$Pools", "java/lang/IllegalStateException"), ("ColourLessen$Offer", "java/lang/IllegalStateException"), ("ColourLessen$Palette", "java/lang/IllegalStateException"), ("ColourLessen$Fitting", "java/lang/IllegalStateException"), ("ColourLessen$Carry", "java/lang/IllegalStateException"), ("ColourLessenModel", "java/lang/IllegalStateException"), ("java/lang/IndexOutOfBoundsException", "java/lang/IllegalStateException"), ("java/lang/IllegalArgumentException", "java/lang/IllegalStateException")]
/-! helpers of this proof: a method's start and end over a list of cells, and what is given from the start -/
/-- the words that all methods share are good ones -/
theorem gx_self : GoodIn BIG BIG := fun w h => ⟨h, good_of_word (BIG_ok w h).2⟩
theorem gx_gN {c : Cond} (h : c ∈ BIG) : GoodIn BIG (c :: BIG) := fun w hw => (List.mem_cons.mp hw).elim (fun e => by rw [e]; exact gx_self _ h) (gx_self w)
theorem gx_gV {own C : String} {idx : Nat} {y : MethodName} {c : Cond} (h1 : Cond.methodLink own idx y ∈ BIG) (h2 : Cond.instanceMethod y ∈ BIG) (h3 : Cond.selects C y y ∈ BIG) (h4 : Cond.initialized C ∈ BIG) (h5 : c ∈ BIG) : GoodIn BIG (wsV own idx C y (c :: BIG)) := by
  intro w hw
  unfold wsV at hw
  rcases List.mem_append.mp hw with hw | hw
  · have hm : w ∈ BIG := by
      simp only [List.mem_cons, List.not_mem_nil, or_false] at hw
      rcases hw with rfl | rfl | rfl | rfl <;> assumption
    exact gx_self w hm
  · exact gx_gN h5 w hw
theorem gx_gS {own : String} {idx : Nat} {y : MethodName} {c : Cond} (h1 : Cond.methodLink own idx y ∈ BIG) (h2 : Cond.static y ∈ BIG) (h3 : Cond.initialized y.cls ∈ BIG) (h5 : c ∈ BIG) : GoodIn BIG (va_wsS own idx y (c :: BIG)) := by
  intro w hw
  unfold va_wsS at hw
  rcases List.mem_append.mp hw with hw | hw
  · have hm : w ∈ BIG := by
      simp only [List.mem_cons, List.not_mem_nil, or_false] at hw
      rcases hw with rfl | rfl | rfl <;> assumption
    exact gx_self w hm
  · exact gx_gN h5 w hw
/-- words that hold from the start on and that no step unmakes -/
def gx_okw : Cond → Bool
  | .methodLinkNest _ _ _ _ => true
  | .castable _ _ => true
  | .declares _ => true
  | _ => false
theorem gx_warm {s U : State} (hW : s.WarmedH U.vm) (w : Cond) (h : gx_okw w = true) (hz : va_Nw w s) : va_Nw w U := by
  cases w <;> first | exact va_Nw.warmM hW hz | exact va_Nw.warmC hW hz | exact va_Nw.warmD hW hz | (simp [gx_okw] at h)
theorem zNw_ok : zNw.all (fun w => gx_okw w && w.onTables) = true := by decide +kernel
/-- a static of a JDK class: where it lies, outside A; it holds null or a reference -/
def zS (C n d : String) (A : Nat → Prop) (U : State) (H : Heap) : Prop :=
  va_Zq C n d A U H ∧ ∃ (c : ClassId) (k : Class) (i : Nat) (f : Field) (a : Nat) (cell : Cell), U.vm.findClass C = some c ∧ U.fieldFound? C n d = some (c, k, i, f) ∧ f.isStatic = true ∧ k.statics = some a ∧ H[a]? = some cell ∧ cell.vm.isStatics = true ∧ cell.cls = c ∧ f.slot < cell.slots.size ∧ k.staticTypes[f.slot]? = some f.type ∧ ¬ A a
theorem zS.moved {C n d : String} {A : Nat → Prop} {u U : State} {H : Heap} (hvm : u.vm.Alike U.vm) (h : zS C n d A u H) : zS C n d A U H := by
  obtain ⟨h0, c, k, i, f, a, cell, h1, h2, h3, h4, h5, h6, h7, h8, h9, h10⟩ := h
  obtain ⟨k', hi', he⟩ := State.fieldFound?_setVm hvm h2
  exact ⟨va_Zq.moved hvm h0, c, k', i, f, a, cell, by rw [hvm.findClass]; exact h1, hi', h3, by rw [he]; exact h4, h5, h6, h7, h8, by rw [he]; exact h9, h10⟩
theorem zS.kept {C n d : String} {A : Nat → Prop} {U : State} {H H1 : Heap} (h : zS C n d A U H) (hq : ∀ a : Nat, a < H.size → ¬ A a → H1[a]? = H[a]?) : zS C n d A U H1 := by
  obtain ⟨h0, c, k, i, f, a, cell, h1, h2, h3, h4, h5, h6, h7, h8, h9, h10⟩ := h
  exact ⟨va_Zq.kept h0 hq, c, k, i, f, a, cell, h1, h2, h3, h4, by rw [hq a (Array.getElem?_eq_some_iff.mp h5).1 h10]; exact h5, h6, h7, h8, h9, h10⟩
theorem zS.narrow {C n d : String} {A B : Nat → Prop} {U : State} {H : Heap} (h : zS C n d A U H) (hAB : ∀ q, B q → A q) : zS C n d B U H := by
  obtain ⟨h0, c, k, i, f, a, cell, h1, h2, h3, h4, h5, h6, h7, h8, h9, h10⟩ := h
  exact ⟨va_Zq.narrow h0 hAB, c, k, i, f, a, cell, h1, h2, h3, h4, h5, h6, h7, h8, h9, fun z => h10 (hAB _ z)⟩
/-- the two statics of Throwable that a throw reads -/
def zT (A : Nat → Prop) (U : State) (H : Heap) : Prop := zS "java/lang/Throwable" "UNASSIGNED_STACK" "[Ljava/lang/StackTraceElement;" A U H ∧ zS "java/lang/Throwable" "SUPPRESSED_SENTINEL" "Ljava/util/List;" A U H
theorem zT.moved {A : Nat → Prop} {u U : State} {H : Heap} (hvm : u.vm.Alike U.vm) (h : zT A u H) : zT A U H := ⟨h.1.moved hvm, h.2.moved hvm⟩
theorem zT.kept {A : Nat → Prop} {U : State} {H H1 : Heap} (h : zT A U H) (hq : ∀ a : Nat, a < H.size → ¬ A a → H1[a]? = H[a]?) : zT A U H1 := ⟨h.1.kept hq, h.2.kept hq⟩
theorem zT.narrow {A B : Nat → Prop} {U : State} {H : Heap} (h : zT A U H) (hAB : ∀ q, B q → A q) : zT B U H := ⟨h.1.narrow hAB, h.2.narrow hAB⟩
/-- what is given from the start: nest links and casts, texts, two statics of Throwable -/
def zG (A : Nat → Prop) (U : State) : Prop :=
  (∀ w ∈ zNw, va_Nw w U) ∧ (∀ q ∈ zSr, ∃ a : Nat, vk_R q.1 q.2.1 q.2.2 a U) ∧ zT A U U.heap ∧ ∀ q ∈ zNc, va_Nc q.1 q.2 U
theorem zG.calling {A : Nat → Prop} {U : State} {g : JFrame} {mk : MethodId} {a : Array Value} (h : zG A U) : zG A (U.calling g mk a) := by
  refine ⟨fun w hw => ?_, fun q hq => ?_, zT.moved (Vm.Alike.refl U.vm) h.2.2.1, fun q hq => va_Nc.moved (Vm.Alike.refl U.vm) (h.2.2.2 q hq)⟩
  · have h1 := List.all_eq_true.mp zNw_ok w hw
    rw [Bool.and_eq_true] at h1
    exact va_Nw.same (u := U) (U := U.calling g mk a) h1.2 rfl (h.1 w hw)
  · obtain ⟨b, hb⟩ := h.2.1 q hq
    exact ⟨b, vk_R.same rfl hb⟩
theorem zG.go {A B : Nat → Prop} {s U : State} {H : Heap} {locs : List Loc} (h : zG A s) (hS : va_S A s.heap H locs) (hU : U.heap = H) (hW : s.WarmedH U.vm) (hBA : ∀ q, B q → A q) : zG B U := by
  have hq : ∀ a : Nat, a < s.heap.size → ¬ A a → U.heap[a]? = s.heap[a]? := fun a h1 h2 => by rw [hU]; exact hS.2.1 a h1 h2
  refine ⟨fun w hw => ?_, fun q hq => ?_, ((zT.moved hW.alike h.2.2.1).kept hq).narrow hBA, fun q hq => va_Nc.moved hW.alike (h.2.2.2 q hq)⟩
  · have h1 := List.all_eq_true.mp zNw_ok w hw
    rw [Bool.and_eq_true] at h1
    exact gx_warm hW w h1.1 (h.1 w hw)
  · obtain ⟨b, hb⟩ := h.2.1 q hq
    exact ⟨b, vk_R.warm hW hb⟩
/-- a method's start: its cells, the classes of its arrays, what is given -/
def gx_pre (D : va_G) (cl : List vw_C) (ws : va_W) (tys : List (ClassId × FieldType)) (sz : Nat) : State → Prop :=
  fun U => U.heap.size = sz ∧ va_P D cl ws U.heap ∧ va_K D cl tys U ∧ va_D (fun _ => True) ws ∧ zG (va_A ws sz) U
/-- its end -/
def gx_B {S : Type} (D : va_G) (cl : List vw_C) (A : Nat → Prop) (w : S → va_W) : S → State → Prop :=
  fun u t => va_P D cl (w u) t.heap ∧ va_D A (w u)
/-- its end, with arrays that it made -/
def gx_BK {S : Type} (D : va_G) (cl : List vw_C) (A : Nat → Prop) (w : S → va_W) (tk : S → List (ClassId × FieldType)) : S → State → Prop :=
  fun u t => va_P D cl (w u) t.heap ∧ va_K D cl (tk u) t ∧ va_D A (w u)
/-- its end by a throw: its cells are as they were -/
def gx_BX (D : va_G) (cl : List vw_C) (A : Nat → Prop) (w : va_W) : String → String → State → Prop :=
  fun E u t => E = u ∧ va_P D cl w t.heap ∧ va_D A w
theorem gx_blind {D : va_G} {cl : List vw_C} {ws : va_W} {tys : List (ClassId × FieldType)} {sz : Nat} {av : List Value} : FrameBlind (va_Pc av (gx_pre D cl ws tys sz)) := fun a U g mk q => by
  obtain ⟨q0, q1, qP, qK, qD, qZ⟩ := q
  exact ⟨q0, q1, qP, va_K.moved (u := U) (U := U.calling g mk a) (Vm.Alike.refl U.vm) qK, qD, qZ.calling⟩
/-- the start of a method that writes nothing -/
def gx_rpre (D : va_G) (cl : List vw_C) (ws : va_W) (tys : List (ClassId × FieldType)) (sz : Nat) : State → Prop :=
  fun U => U.heap.size = sz ∧ va_P D cl ws U.heap ∧ va_K D cl tys U ∧ zG (fun q => sz ≤ q) U
theorem gx_rblind {D : va_G} {cl : List vw_C} {ws : va_W} {tys : List (ClassId × FieldType)} {sz : Nat} {av : List Value} : FrameBlind (va_Pc av (gx_rpre D cl ws tys sz)) := fun a U g mk q => by
  obtain ⟨q0, q1, qP, qK, qZ⟩ := q
  exact ⟨q0, q1, qP, va_K.moved (u := U) (U := U.calling g mk a) (Vm.Alike.refl U.vm) qK, qZ.calling⟩
section GX
variable {p : Program} {l : Launch} {e : Env} {R : Room} {s : State} {m : MethodId} {args : Array Value} {below : List Frame} {meth : Method} {c : Code} {H : Heap} {locs : List Loc} {cells slots : Nat} {Q : State → Prop}
variable {D : va_G} {cl : List vw_C} {A0 : Nat → Prop} {tys tysc : List (ClassId × FieldType)} {ws wc wr : va_W}
theorem gx_abs {g : JFrame} (h : ∀ G : Heap → List Loc → Nat → Nat → JFrame → Prop, (G = fun H locs k n g => W p l e R s m args below meth c H locs k n Q g) → G H locs cells slots g) : W p l e R s m args below meth c H locs cells slots Q g := h _ rfl
theorem gx_preS {As : List Value} (hPc : va_P D cl wc H) (hKc : va_K D cl tysc s) (hDc : va_D A0 wc) (hZ : zG A0 s) (hS : va_S A0 s.heap H locs) (hFc : ∀ q, va_A wc H.size q → A0 q) : PreS s H (va_Pc As (gx_pre D cl wc tysc H.size)) As :=
  ⟨gx_blind, fun U hU hW => ⟨rfl, by rw [hU], by rw [hU]; exact hPc, va_K.moved hW.alike hKc, hDc.weaken (fun _ _ _ _ => trivial), hZ.go hS hU hW hFc⟩⟩
theorem gx_preV {As : List Value} {C : String} {T : u_T} {N b ci : Nat} {fs : List Value} (hPc : va_P D cl wc H) (hKc : va_K D cl tysc s) (hDc : va_D A0 wc) (hZ : zG A0 s) (hS : va_S A0 s.heap H locs) (hFc : ∀ q, va_A wc H.size q → A0 q) (hc : cl[ci]? = some (C, T, N)) (he : wc[0]? = some (b, .inr (ci, fs))) : PreV s H C b (va_Pc (.ref b :: As) (gx_pre D cl wc tysc H.size)) As :=
  ⟨gx_blind, va_recv hKc hPc hc he, fun U hU hW => ⟨rfl, by rw [hU], by rw [hU]; exact hPc, va_K.moved hW.alike hKc, hDc.weaken (fun _ _ _ _ => trivial), hZ.go hS hU hW hFc⟩⟩
theorem gx_rpreS {As : List Value} (hPc : va_P D cl wc H) (hKc : va_K D cl tysc s) (hZ : zG A0 s) (hS : va_S A0 s.heap H locs) (hA : ∀ q, s.heap.size ≤ q → A0 q) : PreS s H (va_Pc As (gx_rpre D cl wc tysc H.size)) As :=
  ⟨gx_rblind, fun U hU hW => ⟨rfl, by rw [hU], by rw [hU]; exact hPc, va_K.moved hW.alike hKc, hZ.go hS hU hW (fun q h => hA q (Nat.le_trans hS.1 h))⟩⟩
theorem gx_rpreV {As : List Value} {C : String} {T : u_T} {N b ci : Nat} {fs : List Value} (hPc : va_P D cl wc H) (hKc : va_K D cl tysc s) (hZ : zG A0 s) (hS : va_S A0 s.heap H locs) (hA : ∀ q, s.heap.size ≤ q → A0 q) (hc : cl[ci]? = some (C, T, N)) (he : wc[0]? = some (b, .inr (ci, fs))) : PreV s H C b (va_Pc (.ref b :: As) (gx_rpre D cl wc tysc H.size)) As :=
  ⟨gx_rblind, va_recv hKc hPc hc he, fun U hU hW => ⟨rfl, by rw [hU], by rw [hU]; exact hPc, va_K.moved hW.alike hKc, hZ.go hS hU hW (fun q h => hA q (Nat.le_trans hS.1 h))⟩⟩
variable {S : Type} {w1 : S → va_W} {w0 : va_W} {H0 : Heap} {mc ms pc : Nat} {ls : Array Slot} {st0 rest : List Value} {a : Array Value}
theorem gx_i {post : Int32 → S → Prop} (hr : va_Run p l e R s m args below meth c H locs cells slots mc ms (F0 m pc ls st0) rest (va_Qi post (gx_B D cl (va_A wc H.size) w1) (va_A wc H.size) a) (va_A wc H.size))
    (hP : va_P D cl ws H) (hD : va_D A0 ws) (hS : va_S A0 H0 H locs) (hF : ∀ q, va_A wc H.size q → A0 q) (isC isR : List Nat) (hC : isC.map (fun i => ws[i]?) = wc.map some) (hR : isR.map (fun i => ws[i]?) = wr.map some) (hn : va_nd isR = true) (hdis : ∀ i ∈ isR, i ∉ isC)
    (kk : ∀ (r : Int32) (u : S) (H1 : Heap) (locs1 : List Loc), post r u → va_P D cl (wr ++ w1 u) H1 → va_D A0 (wr ++ w1 u) → va_S A0 H0 H1 locs1 → W p l e R s m args below meth c H1 locs1 (cells + mc) (slots + ms) Q (F0 m (pc + 3) ls (.int r :: rest))) : W p l e R s m args below meth c H locs cells slots Q (F0 m pc ls st0) :=
  va_calli hr hS (fun q _ h => hF q h) hF (fun r u t H1 locs1 ht _ hw hB _ hk1 hS1 => by
    obtain ⟨hP1, hD1⟩ := hB
    rw [ht] at hP1
    obtain ⟨a1, a2⟩ := va_join hP hD isC isR hC hR hn hdis hk1 hF hP1 hD1
    exact kk r u H1 locs1 hw a1 a2 hS1)
theorem gx_l {post : Int64 → S → Prop} (hr : va_Run p l e R s m args below meth c H locs cells slots mc ms (F0 m pc ls st0) rest (va_Ql post (gx_B D cl (va_A wc H.size) w1) (va_A wc H.size) a) (va_A wc H.size))
    (hP : va_P D cl ws H) (hD : va_D A0 ws) (hS : va_S A0 H0 H locs) (hF : ∀ q, va_A wc H.size q → A0 q) (isC isR : List Nat) (hC : isC.map (fun i => ws[i]?) = wc.map some) (hR : isR.map (fun i => ws[i]?) = wr.map some) (hn : va_nd isR = true) (hdis : ∀ i ∈ isR, i ∉ isC)
    (kk : ∀ (r : Int64) (u : S) (H1 : Heap) (locs1 : List Loc), post r u → va_P D cl (wr ++ w1 u) H1 → va_D A0 (wr ++ w1 u) → va_S A0 H0 H1 locs1 → W p l e R s m args below meth c H1 locs1 (cells + mc) (slots + ms) Q (F0 m (pc + 3) ls (.long r :: rest))) : W p l e R s m args below meth c H locs cells slots Q (F0 m pc ls st0) :=
  va_calll hr hS (fun q _ h => hF q h) hF (fun r u t H1 locs1 ht _ hw hB _ hk1 hS1 => by
    obtain ⟨hP1, hD1⟩ := hB
    rw [ht] at hP1
    obtain ⟨a1, a2⟩ := va_join hP hD isC isR hC hR hn hdis hk1 hF hP1 hD1
    exact kk r u H1 locs1 hw a1 a2 hS1)
theorem gx_v {post : S → Prop} (hr : va_Run p l e R s m args below meth c H locs cells slots mc ms (F0 m pc ls st0) rest (va_Qv post (gx_B D cl (va_A wc H.size) w1) (va_A wc H.size) a) (va_A wc H.size))
    (hP : va_P D cl ws H) (hD : va_D A0 ws) (hS : va_S A0 H0 H locs) (hF : ∀ q, va_A wc H.size q → A0 q) (isC isR : List Nat) (hC : isC.map (fun i => ws[i]?) = wc.map some) (hR : isR.map (fun i => ws[i]?) = wr.map some) (hn : va_nd isR = true) (hdis : ∀ i ∈ isR, i ∉ isC)
    (kk : ∀ (u : S) (H1 : Heap) (locs1 : List Loc), post u → va_P D cl (wr ++ w1 u) H1 → va_D A0 (wr ++ w1 u) → va_S A0 H0 H1 locs1 → W p l e R s m args below meth c H1 locs1 (cells + mc) (slots + ms) Q (F0 m (pc + 3) ls rest)) : W p l e R s m args below meth c H locs cells slots Q (F0 m pc ls st0) :=
  va_callv hr hS (fun q _ h => hF q h) hF (fun u t H1 locs1 ht _ hw hB _ hk1 hS1 => by
    obtain ⟨hP1, hD1⟩ := hB
    rw [ht] at hP1
    obtain ⟨a1, a2⟩ := va_join hP hD isC isR hC hR hn hdis hk1 hF hP1 hD1
    exact kk u H1 locs1 hw a1 a2 hS1)
theorem gx_vK {post : S → Prop} {tk : S → List (ClassId × FieldType)} (hr : va_Run p l e R s m args below meth c H locs cells slots mc ms (F0 m pc ls st0) rest (va_Qv post (gx_BK D cl (va_A wc H.size) w1 tk) (va_A wc H.size) a) (va_A wc H.size))
    (hP : va_P D cl ws H) (hD : va_D A0 ws) (hS : va_S A0 H0 H locs) (hF : ∀ q, va_A wc H.size q → A0 q) (isC isR : List Nat) (hC : isC.map (fun i => ws[i]?) = wc.map some) (hR : isR.map (fun i => ws[i]?) = wr.map some) (hn : va_nd isR = true) (hdis : ∀ i ∈ isR, i ∉ isC)
    (kk : ∀ (u : S) (H1 : Heap) (locs1 : List Loc), post u → va_P D cl (wr ++ w1 u) H1 → va_D A0 (wr ++ w1 u) → va_K D cl (tk u) s → va_S A0 H0 H1 locs1 → W p l e R s m args below meth c H1 locs1 (cells + mc) (slots + ms) Q (F0 m (pc + 3) ls rest)) : W p l e R s m args below meth c H locs cells slots Q (F0 m pc ls st0) :=
  va_callv hr hS (fun q _ h => hF q h) hF (fun u t H1 locs1 ht hvm hw hB _ hk1 hS1 => by
    obtain ⟨hP1, hK1, hD1⟩ := hB
    rw [ht] at hP1
    obtain ⟨a1, a2⟩ := va_join hP hD isC isR hC hR hn hdis hk1 hF hP1 hD1
    exact kk u H1 locs1 hw a1 a2 (va_K.moved hvm.symm hK1) hS1)
/-! calls of methods that write nothing -/
theorem gx_ri {post : Int32 → Unit → Prop} (hr : va_Run p l e R s m args below meth c H locs cells slots mc ms (F0 m pc ls st0) rest (va_Qi post (fun _ _ => True) (fun q => H.size ≤ q) a) (fun q => H.size ≤ q))
    (hP : va_P D cl ws H) (hS : va_S A0 H0 H locs) (hA : ∀ q, H0.size ≤ q → A0 q)
    (kk : ∀ (r : Int32) (H1 : Heap) (locs1 : List Loc), post r () → va_P D cl ws H1 → va_S A0 H0 H1 locs1 → W p l e R s m args below meth c H1 locs1 (cells + mc) (slots + ms) Q (F0 m (pc + 3) ls (.int r :: rest))) : W p l e R s m args below meth c H locs cells slots Q (F0 m pc ls st0) :=
  va_calli hr hS (fun q h1 h2 => absurd h1 (Nat.not_lt.mpr h2)) (fun q h => hA q (Nat.le_trans hS.1 h)) (fun r u t H1 locs1 _ _ hw _ _ hk1 hS1 => kk r H1 locs1 hw (hP.kept (fun k q h => hk1 q.1 (hP k q h).lt (Nat.not_le.mpr (hP k q h).lt))) hS1)
theorem gx_rl {post : Int64 → Unit → Prop} (hr : va_Run p l e R s m args below meth c H locs cells slots mc ms (F0 m pc ls st0) rest (va_Ql post (fun _ _ => True) (fun q => H.size ≤ q) a) (fun q => H.size ≤ q))
    (hP : va_P D cl ws H) (hS : va_S A0 H0 H locs) (hA : ∀ q, H0.size ≤ q → A0 q)
    (kk : ∀ (r : Int64) (H1 : Heap) (locs1 : List Loc), post r () → va_P D cl ws H1 → va_S A0 H0 H1 locs1 → W p l e R s m args below meth c H1 locs1 (cells + mc) (slots + ms) Q (F0 m (pc + 3) ls (.long r :: rest))) : W p l e R s m args below meth c H locs cells slots Q (F0 m pc ls st0) :=
  va_calll hr hS (fun q h1 h2 => absurd h1 (Nat.not_lt.mpr h2)) (fun q h => hA q (Nat.le_trans hS.1 h)) (fun r u t H1 locs1 _ _ hw _ _ hk1 hS1 => kk r H1 locs1 hw (hP.kept (fun k q h => hk1 q.1 (hP k q h).lt (Nat.not_le.mpr (hP k q h).lt))) hS1)
theorem gx_rv {post : Unit → Prop} (hr : va_Run p l e R s m args below meth c H locs cells slots mc ms (F0 m pc ls st0) rest (va_Qv post (fun _ _ => True) (fun q => H.size ≤ q) a) (fun q => H.size ≤ q))
    (hP : va_P D cl ws H) (hS : va_S A0 H0 H locs) (hA : ∀ q, H0.size ≤ q → A0 q)
    (kk : ∀ (H1 : Heap) (locs1 : List Loc), post () → va_P D cl ws H1 → va_S A0 H0 H1 locs1 → W p l e R s m args below meth c H1 locs1 (cells + mc) (slots + ms) Q (F0 m (pc + 3) ls rest)) : W p l e R s m args below meth c H locs cells slots Q (F0 m pc ls st0) :=
  va_callv hr hS (fun q h1 h2 => absurd h1 (Nat.not_lt.mpr h2)) (fun q h => hA q (Nat.le_trans hS.1 h)) (fun u t H1 locs1 _ _ hw _ _ hk1 hS1 => kk H1 locs1 hw (hP.kept (fun k q h => hk1 q.1 (hP k q h).lt (Nat.not_le.mpr (hP k q h).lt))) hS1)
end GX

