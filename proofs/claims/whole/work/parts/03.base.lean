/-! the memory: every cell that the law makes lies at b + k, k below 76, and its shape never changes; what changes are ints (M.1 k j) and longs (M.2 k j) -/
abbrev Mem : Type := (Nat → Nat → Int32) × (Nat → Nat → Int64)
/-- b; the classes of int[], long[], boolean[], Form[], long[][]; the classes and slots of the objects -/
abbrev Kp : Type := Nat × (ClassId × ClassId × ClassId × ClassId × ClassId) × va_G
abbrev kI (κ : Kp) : ClassId := κ.2.1.1
abbrev kJ (κ : Kp) : ClassId := κ.2.1.2.1
abbrev kZ (κ : Kp) : ClassId := κ.2.1.2.2.1
abbrev kF (κ : Kp) : ClassId := κ.2.1.2.2.2.1
abbrev kT (κ : Kp) : ClassId := κ.2.1.2.2.2.2
abbrev eI (κ : Kp) (n : Nat) (f : Nat → Int32) : va_E := .inl (kI κ, n, .inl f)
abbrev eZ (κ : Kp) (n : Nat) (f : Nat → Int32) : va_E := .inl (kZ κ, n, .inl f)
abbrev eJ (κ : Kp) (n : Nat) (g : Nat → Int64) : va_E := .inl (kJ κ, n, .inr (.inl g))
abbrev eF (κ : Kp) : va_E := .inl (kF κ, 12, .inr (.inr (.inr (.inr (fun j => some (κ.1 + (32 + 2 * j)))))))
abbrev eT (κ : Kp) : va_E := .inl (kT κ, 10, .inr (.inr (.inr (.inr (fun j => some (κ.1 + (17 + j)))))))
def sh_x (κ : Kp) (f : Nat → Int32) (g : Nat → Int64) : List va_E := [
  .inr (6, [.ref (κ.1 + 1), .ref (κ.1 + 8), .ref (κ.1 + 9), .ref (κ.1 + 12), .ref (κ.1 + 15), .ref (κ.1 + 28), .ref (κ.1 + 31)]),
  .inr (3, [.int (f 0), .int (f 1), .int (f 2), .ref (κ.1 + 2), .ref (κ.1 + 3), .ref (κ.1 + 4), .ref (κ.1 + 5), .ref (κ.1 + 6), .ref (κ.1 + 7)]),
  eI κ 12 f, eI κ 12 f, eI κ 10 f, eI κ 10 f, eI κ 10 f, eI κ 6 f,
  eF κ,
  .inr (4, [.ref (κ.1 + 10), .ref (κ.1 + 11)]), eZ κ 6 f, eI κ 6 f,
  .inr (5, [.int (f 0), .ref (κ.1 + 13), .ref (κ.1 + 14)]), eJ κ 6 g, eJ κ 12 g,
  .inr (0, [.int (f 0), .ref (κ.1 + 16), .ref (κ.1 + 27), .int (f 3), .long (g 4)]),
  eT κ, eJ κ 10 g, eJ κ 10 g, eJ κ 10 g, eJ κ 10 g, eJ κ 10 g, eJ κ 10 g, eJ κ 10 g, eJ κ 10 g, eJ κ 10 g, eJ κ 10 g, eJ κ 10 g,
  .inr (1, [.ref (κ.1 + 29), .ref (κ.1 + 30)]), eJ κ 6 g, eI κ 6 f,
  eJ κ 12 g]
def sh_f (κ : Kp) (i : Nat) (f : Nat → Int32) : List va_E := [.inr (2, [.int (f 0), .ref (κ.1 + (33 + 2 * i))]), eI κ 12 f]
def sh_m (κ : Kp) (f : Nat → Int32) (g : Nat → Int64) : List va_E := [
  .inr (7, [.int (f 0), .int (f 1), .int (f 2), .ref (κ.1 + 57), .ref (κ.1 + 58), .ref (κ.1 + 59), .ref (κ.1 + 60), .ref (κ.1 + 61), .ref (κ.1 + 62), .ref (κ.1 + 63), .ref (κ.1 + 64), .ref (κ.1 + 65), .ref (κ.1 + 66), .ref (κ.1 + 67), .int (f 14), .ref (κ.1 + 68), .ref (κ.1 + 69), .ref (κ.1 + 70), .long (g 18), .ref (κ.1 + 71), .ref (κ.1 + 72), .ref (κ.1 + 73), .ref (κ.1 + 74), .ref (κ.1 + 75), .long (g 24), .long (g 25)]),
  eI κ 12 f, eI κ 12 f, eI κ 10 f, eI κ 10 f, eI κ 10 f, eI κ 12 f, eI κ 144 f, eZ κ 6 f, eI κ 6 f, eJ κ 6 g, eJ κ 12 g,
  eJ κ 12 g, eJ κ 156 g, eI κ 12 f, eJ κ 12 g, eI κ 6 f, eJ κ 6 g, eJ κ 12 g, eJ κ 12 g]
/-- the cell at b + k, with its ints and longs -/
def shp (κ : Kp) (k : Nat) (f : Nat → Int32) (g : Nat → Int64) : va_E :=
  (sh_x κ f g ++ (sh_f κ 0 f ++ (sh_f κ 1 f ++ (sh_f κ 2 f ++ (sh_f κ 3 f ++ (sh_f κ 4 f ++ (sh_f κ 5 f ++ (sh_f κ 6 f ++ (sh_f κ 7 f ++ (sh_f κ 8 f ++ (sh_f κ 9 f ++ (sh_f κ 10 f ++ (sh_f κ 11 f ++ sh_m κ f g))))))))))))).getD k (.inr (0, []))
theorem sh_formO (κ : Kp) {i : Nat} (h : i < 12) (f : Nat → Int32) (g : Nat → Int64) : shp κ (32 + 2 * i) f g = .inr (2, [.int (f 0), .ref (κ.1 + (33 + 2 * i))]) := by
  match i, h with
  | 0, _ => rfl
  | 1, _ => rfl
  | 2, _ => rfl
  | 3, _ => rfl
  | 4, _ => rfl
  | 5, _ => rfl
  | 6, _ => rfl
  | 7, _ => rfl
  | 8, _ => rfl
  | 9, _ => rfl
  | 10, _ => rfl
  | 11, _ => rfl
theorem sh_formA (κ : Kp) {i : Nat} (h : i < 12) (f : Nat → Int32) (g : Nat → Int64) : shp κ (33 + 2 * i) f g = eI κ 12 f := by
  match i, h with
  | 0, _ => rfl
  | 1, _ => rfl
  | 2, _ => rfl
  | 3, _ => rfl
  | 4, _ => rfl
  | 5, _ => rfl
  | 6, _ => rfl
  | 7, _ => rfl
  | 8, _ => rfl
  | 9, _ => rfl
  | 10, _ => rfl
  | 11, _ => rfl
theorem sh_tabA (κ : Kp) {i : Nat} (h : i < 10) (f : Nat → Int32) (g : Nat → Int64) : shp κ (17 + i) f g = eJ κ 10 g := by
  match i, h with
  | 0, _ => rfl
  | 1, _ => rfl
  | 2, _ => rfl
  | 3, _ => rfl
  | 4, _ => rfl
  | 5, _ => rfl
  | 6, _ => rfl
  | 7, _ => rfl
  | 8, _ => rfl
  | 9, _ => rfl
def wI (M : Mem) (k i : Nat) (x : Int32) : Mem := (va_up M.1 k (upd (M.1 k) i x), M.2)
def wJ (M : Mem) (k i : Nat) (x : Int64) : Mem := (M.1, va_up M.2 k (vp_updL (M.2 k) i x))
def ents (κ : Kp) (M : Mem) : Nat → va_E := fun k => shp κ k (M.1 k) (M.2 k)
def wl (b : Nat) (E : Nat → va_E) : va_W := (List.range 76).map (fun k => (b + k, E k))
theorem wl_get {b : Nat} {E : Nat → va_E} {k : Nat} (h : k < 76) : (wl b E)[k]? = some (b + k, E k) := by
  simp [wl, h]
theorem wl_get2 {b : Nat} {E : Nat → va_E} {k : Nat} {q : Nat × va_E} (h : (wl b E)[k]? = some q) : k < 76 ∧ q = (b + k, E k) := by
  have hk : k < 76 := by
    have := (List.getElem?_eq_some_iff.mp h).1
    simpa [wl] using this
  exact ⟨hk, Option.some.inj (h.symm.trans (wl_get hk))⟩
theorem wl_set {b : Nat} {E : Nat → va_E} {k : Nat} {e : va_E} (h : k < 76) : (wl b E).set k (b + k, e) = wl b (va_up E k e) := by
  apply List.ext_getElem?
  intro j
  rw [List.getElem?_set]
  by_cases hj : j < 76
  · rw [wl_get hj, wl_get hj]
    by_cases e1 : k = j
    · subst e1
      simp [va_up, wl, h]
    · simp [va_up, e1, Ne.symm e1]
  · have e1 : ¬ k = j := by omega
    rw [if_neg e1, List.getElem?_eq_none (by simp [wl]; omega), List.getElem?_eq_none (by simp [wl]; omega)]
theorem wl_D {b : Nat} {E : Nat → va_E} : va_D (fun q => b ≤ q) (wl b E) := by
  refine ⟨fun i j p q hp hq e => ?_, fun k q hq => ?_⟩
  · obtain ⟨-, rfl⟩ := wl_get2 hp
    obtain ⟨-, rfl⟩ := wl_get2 hq
    exact Nat.add_left_cancel e
  · obtain ⟨-, rfl⟩ := wl_get2 hq
    exact Nat.le_add_right _ _
theorem ents_I {κ : Kp} {M : Mem} {k i : Nat} {x : Int32} : ents κ (wI M k i x) = va_up (ents κ M) k (shp κ k (upd (M.1 k) i x) (M.2 k)) := by
  funext j
  by_cases h : j = k
  · subst h; simp [ents, wI, va_up]
  · simp [ents, wI, va_up, h]
theorem ents_J {κ : Kp} {M : Mem} {k i : Nat} {x : Int64} : ents κ (wJ M k i x) = va_up (ents κ M) k (shp κ k (M.1 k) (vp_updL (M.2 k) i x)) := by
  funext j
  by_cases h : j = k
  · subst h; simp [ents, wJ, va_up]
  · simp [ents, wJ, va_up, h]
def Hp (κ : Kp) (M : Mem) (H : Heap) : Prop := va_P κ.2.2 cls8 (wl κ.1 (ents κ M)) H
def Ab (κ : Kp) : Nat → Prop := fun q => κ.1 ≤ q
abbrev tysK (κ : Kp) : List (ClassId × FieldType) := [(kI κ, .int), (kJ κ, .long), (kZ κ, .boolean), (kF κ, .object "NetForms$Form"), (kT κ, .array .long)]
/-- private members of the nest: their links stand beside the words -/
def nestW : List (String × Nat × MethodName × String) := (tables_1.filterMap fun w => match w with
  | .methodLinkNest o i y h => some (o, i, y, h)
  | _ => none)
def KK (κ : Kp) (U : State) : Prop := va_K κ.2.2 cls8 (tysK κ) U ∧ ∀ q ∈ nestW, va_Nw (.methodLinkNest q.1 q.2.1 q.2.2.1 q.2.2.2) U
theorem KK.warm {κ : Kp} {s U : State} (hW : s.WarmedH U.vm) (h : KK κ s) : KK κ U := ⟨va_K.moved hW.alike h.1, fun q hq => va_Nw.warmM hW (h.2 q hq)⟩
theorem KK.same {κ : Kp} {s U : State} (e : s.vm = U.vm) (h : KK κ s) : KK κ U := ⟨va_K.moved (e ▸ Vm.Alike.refl s.vm) h.1, fun q hq => va_Nw.same rfl e (h.2 q hq)⟩
abbrev Gm : Type := Program × Launch × Env × Room × State × MethodId × Array Value × List Frame × Method × Code
def rmd (d : Nat) : Room := { frames := d, cells := 0, slots := 0, locals := 45 * d }
def qcc (κ : Kp) (post : Option Value → Mem → Prop) : Array Value → State → Outcome → State → Prop := fun _ st oc t => (∃ (v : Option Value) (M' : Mem), oc = .returned v ∧ post v M' ∧ Hp κ M' t.heap) ∧ va_F (Ab κ) st t
/-- a method's contract: from the memory M with the arguments As it comes to an answer and a memory of post -/
def Ct (l : Launch) (κ : Kp) (y : MethodName) (cc : ByteArray) (nL : Nat) (ret : Option FieldType) (d : Nat) (As : List Value) (M : Mem) (post : Option Value → Mem → Prop) : Prop :=
  Met l y (Cond.code y cc nL ret :: gw) (rmd d) (va_Pc As (fun U => Hp κ M U.heap ∧ KK κ U)) (qcc κ post) 0 0 (Ab κ)
abbrev gS (γ : Gm) : State := γ.2.2.2.2.1
/-- what holds of a frame at work -/
def Cx (γ : Gm) (κ : Kp) (own : String) (cc : ByteArray) (nL d : Nat) (z : Nat × Nat) : Prop :=
  γ.1.tables.exec = Jvm.exec ∧ γ.2.2.2.2.2.2.2.2.2.code = cc ∧ γ.2.2.2.2.2.2.2.2.2.maxLocals = nL ∧ γ.2.2.2.2.1.vm.findClass own = some γ.2.2.2.2.2.1.cls ∧ (∀ w ∈ gw, w.before γ.2.2.2.2.2.2.1 γ.2.2.2.2.1 = true) ∧ KK κ γ.2.2.2.2.1 ∧ (d ≤ γ.2.2.2.1.frames ∧ 45 * d ≤ γ.2.2.2.1.locals) ∧ z.1 ≤ γ.2.2.2.1.cells ∧ z.2 ≤ γ.2.2.2.1.slots
def Rt (γ : Gm) (ret : Option FieldType) : Prop := γ.2.2.2.2.2.2.2.2.1.sig.returnType = ret ∧ γ.2.2.2.2.2.2.2.2.1.locks = false
/-- the machine at pc, with these locals, this stack and this memory, comes to Q -/
def G (γ : Gm) (κ : Kp) (nL : Nat) (z : Nat × Nat) (Q : State → Prop) (pc : Nat) (lv : List (Nat × Value)) (st : List Value) (M : Mem) : Prop :=
  ∀ (H : Heap) (locs : List Loc) (ls : Array Slot), Hp κ M H → va_S (Ab κ) γ.2.2.2.2.1.heap H locs → lv_has ls nL lv →
    W γ.1 γ.2.1 γ.2.2.1 γ.2.2.2.1 γ.2.2.2.2.1 γ.2.2.2.2.2.1 γ.2.2.2.2.2.2.1 γ.2.2.2.2.2.2.2.1 γ.2.2.2.2.2.2.2.2.1 γ.2.2.2.2.2.2.2.2.2 H locs z.1 z.2 Q (F0 γ.2.2.2.2.2.1 pc ls st)
def Gq (γ : Gm) (κ : Kp) (post : Option Value → Mem → Prop) : State → Prop := MQ γ.2.2.2.2.2.2.2.1 (qcc κ post) γ.2.2.2.2.2.2.1 γ.2.2.2.2.1 0 0 (Ab κ)
theorem Ct_of {l : Launch} {κ : Kp} {y : MethodName} {cc : ByteArray} {nL : Nat} {ret : Option FieldType} {d : Nat} {As : List Value} {M : Mem} {post : Option Value → Mem → Prop} (hy : plainName y.cls = true) (hn : (lg_sl As).length ≤ nL)
    (h : ∀ γ : Gm, γ.2.1 = l → Cx γ κ y.cls cc nL d (0, 0) → Rt γ ret → G γ κ nL (0, 0) (Gq γ κ post) 0 (lv_args 0 As) [] M) : Ct l κ y cc nL ret d As M post := by
  refine Met.ofW (cc := cc) (maxL := nL) (ret := ret) hy rfl ?_
  intro p e s m args below meth c s₁ B hml hv
  obtain ⟨rfl, hP, hK⟩ := hv
  have hts := atoms_spec (ws := Cond.code y cc nL ret :: gw) B.pre
  have hown : s.vm.findClass y.cls = some m.cls := findClass_of_methodNamed B.named
  have hl := lv_entry As hn
  rw [lg_entry_eq]
  generalize (lg_sl As ++ List.replicate (nL - (lg_sl As).length) Slot.unset).toArray = ls at hl ⊢
  exact h (p, l, e, rmd d, s, m, As.toArray, below, meth, c) rfl ⟨B.exec, B.bytes, hml, hown, fun w hw => hts w (List.mem_cons_of_mem _ hw), hK, ⟨Nat.le_refl _, Nat.le_refl _⟩, Nat.le_refl _, Nat.le_refl _⟩ ⟨B.returns, B.notSynchronized⟩ s.heap [] ls hP va_S.rf hl
