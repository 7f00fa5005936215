/-! new long[10][10]: one instruction that makes eleven cells. The states on the way (mz_st), what they hold (mz_all), that the walk stands there (mz_stand), the instruction's words (mz_new, mz_loop, mz_make), and the row (E_mna) -/
theorem arrV_congr {c : ClassId} {N : Nat} {f g : Nat → Value} (h : ∀ j, j < N → f j = g j) : arrV c N f = arrV c N g := by
  unfold arrV
  congr 2
  funext j
  exact h j.val j.isLt
def mz_out (a : ClassId) (h i : Nat) : Cell := arrV a 10 (fun j => va_rf (if j < i then some (h + 1 + j) else none))
def mz_row (b : ClassId) : Cell := arrV b 10 (fun _ => .long 0)
def mz_st (a b : ClassId) (T : State) : Nat → State
  | 0 => T.pushCell (mz_out a T.heap.size 0)
  | i + 1 => ((mz_st a b T i).pushCell (mz_row b)).setCell T.heap.size (mz_out a T.heap.size (i + 1))
theorem mz_next (a : ClassId) (h i : Nat) : (mz_out a h i).setSlot i (.ref (h + 1 + i)) = mz_out a h (i + 1) := by
  unfold mz_out
  rw [arrV_store]
  refine congrArg (arrV a 10) (funext fun j => ?_)
  unfold updV
  by_cases z : j = i
  · subst z
    rw [if_pos rfl, if_pos (Nat.lt_succ_self j)]
    rfl
  · rw [if_neg z]
    show va_rf (if j < i then some (h + 1 + j) else none) = va_rf (if j < i + 1 then some (h + 1 + j) else none)
    by_cases y : j < i
    · rw [if_pos y, if_pos (Nat.lt_succ_of_lt y)]
    · rw [if_neg y, if_neg (by omega)]
theorem mz_first (a : ClassId) (h : Nat) : arrV a 10 (fun _ => Value.null) = mz_out a h 0 := by
  unfold mz_out
  refine congrArg (arrV a 10) (funext fun j => ?_)
  rw [if_neg (Nat.not_lt_zero j)]
  rfl
def mz_ok (a b : ClassId) (T : State) (i : Nat) (U : State) : Prop :=
  U.heap.size = T.heap.size + 1 + i ∧ U.heap[T.heap.size]? = some (mz_out a T.heap.size i) ∧ (∀ j : Nat, j < i → U.heap[T.heap.size + 1 + j]? = some (mz_row b)) ∧ (∀ x : Nat, x < T.heap.size → U.heap[x]? = T.heap[x]?) ∧ U.vm = T.vm ∧ U.slotsUsed = T.slotsUsed + 10 + i * 10
theorem mz_all (a b : ClassId) (T : State) : ∀ i : Nat, mz_ok a b T i (mz_st a b T i)
  | 0 => by
    have g : ∀ x : Nat, (mz_st a b T 0).heap[x]? = if x = T.heap.size then some (mz_out a T.heap.size 0) else T.heap[x]? := fun x => by
      show (T.heap.push (mz_out a T.heap.size 0))[x]? = _
      rw [Array.getElem?_push]
    refine ⟨?_, ?_, fun j h => absurd h (Nat.not_lt_zero j), fun x h => ?_, rfl, ?_⟩
    · show (T.heap.push _).size = _
      rw [Array.size_push]
    · rw [g, if_pos rfl]
    · rw [g, if_neg (Nat.ne_of_lt h)]
    · show T.slotsUsed + (mz_out a T.heap.size 0).slots.size = _
      unfold mz_out
      rw [arrV_size]
  | i + 1 => by
    obtain ⟨h1, h2, h3, h4, h5, h6⟩ := mz_all a b T i
    have g : ∀ x : Nat, (mz_st a b T (i + 1)).heap[x]? = if x = T.heap.size then some (mz_out a T.heap.size (i + 1)) else if x = T.heap.size + 1 + i then some (mz_row b) else (mz_st a b T i).heap[x]? := fun x => by
      show (((mz_st a b T i).heap.push (mz_row b)).setIfInBounds T.heap.size (mz_out a T.heap.size (i + 1)))[x]? = _
      rw [Array.getElem?_setIfInBounds, Array.size_push, Array.getElem?_push, h1]
      by_cases z : x = T.heap.size
      · rw [if_pos z.symm, if_pos z, if_pos (by omega)]
      · rw [if_neg (Ne.symm z), if_neg z]
    refine ⟨?_, ?_, fun j h => ?_, fun x h => ?_, ?_, ?_⟩
    · show (((mz_st a b T i).heap.push (mz_row b)).setIfInBounds T.heap.size _).size = _
      rw [Array.size_setIfInBounds, Array.size_push, h1]
      omega
    · rw [g, if_pos rfl]
    · rw [g, if_neg (by omega)]
      by_cases z : j = i
      · rw [if_pos (by omega)]
      · rw [if_neg (by omega)]
        exact h3 j (by omega)
    · rw [g, if_neg (by omega), if_neg (by omega)]
      exact h4 x h
    · exact h5
    · show (mz_st a b T i).slotsUsed + (mz_row b).slots.size = _
      rw [h6]
      unfold mz_row
      rw [arrV_size]
      omega
theorem mz_top (a b : ClassId) (T : State) (f : JFrame) : ∀ i : Nat, mz_st a b (T.setTop f) i = (mz_st a b T i).setTop f
  | 0 => rfl
  | i + 1 => by
    show ((mz_st a b (T.setTop f) i).pushCell (mz_row b)).setCell T.heap.size (mz_out a T.heap.size (i + 1)) = _
    rw [mz_top a b T f i]
    rfl
section MZW
variable {E : CtlPost} {e : Env} {U : State}
theorem mz_new {a ca : ClassId} {k : Class} {ty : FieldType} {v : Value} {d : Bool} {acts : List Action} {Q : Addr → Pre} (hk : U.vm.classes[a]? = some k) (hkind : k.kind = .array ca ty) (hl : ¬ 10 > e.platform.arrayLengthLimit) (hb : ¬ 10 * componentBytes ty > e.platform.maxHeapBytes) (hf : fits ty v = true) (hv : v.isDefault = true) (hc : U.heap.size < e.platform.maxCells) (hs : U.slotsUsed + 10 ≤ e.platform.maxSlots)
    (hq : Q U.heap.size d acts (U.pushCell (arrV a 10 (fun _ => v)))) : wp (Jvm.newArray a 10 v) Q E e d acts U := by
  have hfit : ∀ (i : Nat) (x : Value), (Array.replicate 10 v)[i]? = some x → U.fitsSlot a .none i x = true := fun i x hx => by
    rw [Array.getElem?_replicate] at hx
    by_cases hi : i < 10
    · rw [if_pos hi] at hx
      cases hx
      simp [State.fitsSlot, State.slotType?, hk, hkind, hf]
    · rw [if_neg hi] at hx
      cases hx
  have hall : allocActs (Array.replicate 10 v) U.heap.size acts = acts := if_pos (by rw [Array.all_replicate]; simp [hv])
  have hs' : ¬ 10 > e.platform.maxSlots := by omega
  rw [← arrV_new] at hq
  simp only [Jvm.newArray, Jvm.arrayFits, wp_bind', W.ask, W.ite, W.theClass, W.alloc, wp_pure', hk, hkind, hl, hb, hs', if_false, Option.some.injEq, exists_eq_left', Array.size_replicate, hall]
  exact ⟨hc, hs, hfit, hq⟩
theorem mz_inner {b cb : ClassId} {k : Class} {d : Bool} {acts : List Action} {Q : Addr → Pre} (hk : U.vm.classes[b]? = some k) (hkind : k.kind = .array cb .long) (hl : ¬ 10 > e.platform.arrayLengthLimit) (hb : ¬ 10 * componentBytes .long > e.platform.maxHeapBytes) (hc : U.heap.size < e.platform.maxCells) (hs : U.slotsUsed + 10 ≤ e.platform.maxSlots)
    (hq : Q U.heap.size d acts (U.pushCell (mz_row b))) : wp (multianewarray.make b [10]) Q E e d acts U := by
  have e10 : (10 : Int32).toNatClampNeg = 10 := by decide
  have n10 : ¬ (10 : Int32) < 0 := by decide
  rw [multianewarray.make]
  simp only [wp_bind', W.ite, n10, if_false, wp_pure', W.theClass, hk, hkind, Option.some.injEq, exists_eq_left', e10]
  exact mz_new hk hkind hl hb rfl rfl hc hs hq
theorem mz_loop {S : Nat → State} {N : Nat} {body : Nat → PUnit → Sem (ForInStep PUnit)} (hb : ∀ i : Nat, i < N → ∀ (d : Bool) (acts : List Action) (Q' : ForInStep PUnit → Pre), (∀ d' acts', Q' (ForInStep.yield PUnit.unit) d' acts' (S (i + 1))) → wp (body i PUnit.unit) Q' E e d acts (S i)) {Q : PUnit → Pre} (hq : ∀ d acts, Q PUnit.unit d acts (S N)) :
    ∀ k i : Nat, i + k = N → ∀ (d : Bool) (acts : List Action), wp (forIn (List.range' i k) PUnit.unit body) Q E e d acts (S i)
  | 0, i, h, d, acts => by
    have z : i = N := by omega
    subst z
    simp only [List.range'_zero, List.forIn_nil, wp_pure']
    exact hq d acts
  | k + 1, i, h, d, acts => by
    rw [List.range'_succ]
    simp only [List.forIn_cons, wp_bind']
    exact hb i (by omega) d acts _ fun d' acts' => mz_loop hb hq k (i + 1) (by omega) d' acts'
theorem mz_make {T : State} {a b cb : ClassId} {kA kB : Class} {d : Bool} {acts : List Action} {Q : Addr → Pre} (hkA : T.vm.classes[a]? = some kA) (hkindA : kA.kind = .array b (.array .long)) (hkB : T.vm.classes[b]? = some kB) (hkindB : kB.kind = .array cb .long) (hl : ¬ 10 > e.platform.arrayLengthLimit) (hb1 : ¬ 10 * componentBytes (.array .long) > e.platform.maxHeapBytes) (hb2 : ¬ 10 * componentBytes .long > e.platform.maxHeapBytes) (hc : T.heap.size + 11 ≤ e.platform.maxCells) (hs : T.slotsUsed + 110 ≤ e.platform.maxSlots)
    (hq : ∀ d' acts', Q T.heap.size d' acts' (mz_st a b T 10)) : wp (multianewarray.make a [10, 10]) Q E e d acts T := by
  have e10 : (10 : Int32).toNatClampNeg = 10 := by decide
  have n10 : ¬ (10 : Int32) < 0 := by decide
  have z10 : ((10 : Int32) == 0) = false := by decide
  rw [multianewarray.make]
  simp only [wp_bind', W.ite, n10, if_false, wp_pure', W.theClass, hkA, hkindA, Option.some.injEq, exists_eq_left', e10]
  refine mz_new hkA hkindA hl hb1 rfl rfl (by omega) (by omega) ?_
  rw [mz_first a T.heap.size]
  simp only [wp_bind', W.ite, z10, Bool.false_eq_true, if_false, wp_pure']
  rw [Std.Legacy.Range.forIn_eq_forIn_range']
  show wp (forIn (List.range' 0 10) PUnit.unit _) _ E e d acts (mz_st a b T 0)
  refine mz_loop (S := mz_st a b T) (N := 10) (fun i hi d' acts' Q' hn => ?_) (fun d' acts' => ?_) 10 0 rfl d acts
  · obtain ⟨h1, h2, -, -, h5, h6⟩ := mz_all a b T i
    simp only [wp_bind']
    refine mz_inner (by rw [h5]; exact hkB) hkindB hl hb2 (by rw [h1]; omega) (by rw [h6]; omega) ?_
    simp only [wp_bind', W.writeLoc, wp_pure']
    refine ⟨mz_out a T.heap.size i, ?_, by simp [mz_out, arrV], by unfold mz_out; rw [arrV_size]; exact hi, ?_, ?_⟩
    · show ((mz_st a b T i).heap.push (mz_row b))[T.heap.size]? = _
      rw [Array.getElem?_push, if_neg (by omega)]
      exact h2
    · show State.fitsSlot ((mz_st a b T i).pushCell (mz_row b)) a .none i _ = true
      simp [State.fitsSlot, State.slotType?, h5, hkA, hkindA]
      rfl
    · rw [h1, mz_next]
      exact hn _ _
  · simp only [wp_pure']
    exact hq d' acts'
end MZW
section MZS
variable {p : Program} {l : Launch} {e : Env} {R : Room} {s : State} {m : MethodId} {args : Array Value} {below : List Frame} {meth : Method} {c : Code} {T : State} {locs : List Loc} {cells slots : Nat}
theorem mz_stand (X : Stand p l e R s m args below meth c T locs cells slots) (a b : ClassId) : ∀ i : Nat, Stand p l e R s m args below meth c (mz_st a b T i) locs (cells + 1 + i) (slots + 10 + i * 10)
  | 0 => by
    have h := X.pushed (mz_out a T.heap.size 0)
    rw [show (mz_out a T.heap.size 0).slots.size = 10 from arrV_size _ _ _] at h
    exact h
  | i + 1 => by
    obtain ⟨h1, h2, -, -, -, -⟩ := mz_all a b T i
    have h := ((mz_stand X a b i).pushed (mz_row b)).stored (a := T.heap.size) (cell := mz_out a T.heap.size i) (by
      show ((mz_st a b T i).heap.push (mz_row b))[T.heap.size]? = _
      rw [Array.getElem?_push, if_neg (by omega)]
      exact h2) i (.ref (T.heap.size + 1 + i))
    rw [mz_next, show (mz_row b).slots.size = 10 from arrV_size _ _ _] at h
    have h' := h.dropFresh (fun x hx => by
      rw [List.mem_singleton.mp hx]
      exact X.heapGrown)
    rw [show slots + 10 + (i + 1) * 10 = slots + 10 + i * 10 + 10 by omega]
    exact h'
theorem mz_step (X : Stand p l e R s m args below meth c T locs cells slots) (hx : p.tables.exec = Jvm.exec) {own : String} {idx : Nat} {a b : ClassId} (hown : s.vm.findClass own = some m.cls) (hlk : (Cond.classLink own idx ("[" ++ (FieldType.array .long).toString)).before args s = true)
    (hov : (Cond.arrayOver (.array .long)).before #[] s = true) (har : (Cond.arrayClass .long).before args s = true) (ha : s.vm.findClass ("[" ++ (FieldType.array .long).toString) = some a) (hb : s.vm.findClass ("[" ++ FieldType.long.toString) = some b)
    {g : JFrame} (hg : g.method = m) (hd : decode c.code g.pc = .ok (.multianewarray idx 2, 4)) {st : List Value} (hst : g.stack = .int 10 :: .int 10 :: st) (hc : cells + 11 ≤ R.cells) (hs : slots + 110 ≤ R.slots) :
    ∃ vm₁ : Vm, Stand p l e R s m args below meth c (mz_st a b (T.setVm vm₁) 10) locs (cells + 1 + 10) (slots + 10 + 10 * 10) ∧
      ∀ t, Steps p.tables e below ((mz_st a b (T.setVm vm₁) 10).setTop { g with pc := g.pc + 4, stack := .ref T.heap.size :: st }) t → Steps p.tables e below (T.setTop g) t := by
  subst hg
  obtain ⟨b', a', kA, hb', -, hkA, hkindA, ha'⟩ := arrayOverA_spec hov
  obtain ⟨b2, kB, cb, hb2, hkB, hkindB⟩ := Cond.arrayClass_spec har
  obtain ⟨a2, ha2, hcl⟩ := Cond.classLink_spec hown hlk e.platform (by rw [X.admits.platform])
  obtain rfl : a' = a := Option.some.inj (ha'.symm.trans ha)
  obtain rfl : b' = b := Option.some.inj (hb'.symm.trans hb)
  obtain rfl : b2 = b' := Option.some.inj (hb2.symm.trans hb)
  obtain rfl : a2 = a' := Option.some.inj (ha2.symm.trans ha)
  obtain ⟨g1, w1, -⟩ := State.classEntry (e := e) X.warmed hcl
  generalize T.vm.noted g.method.cls idx (.cls a2) = vm₁ at g1 w1
  obtain ⟨kA1, hkA1, eA⟩ := w1.alike.2.2 _ _ hkA
  obtain ⟨kB1, hkB1, eB⟩ := w1.alike.2.2 _ _ hkB
  obtain ⟨r1, r2⟩ := X.roomAbove hc hs
  have hl : ¬ 10 > e.platform.arrayLengthLimit := by rw [Launch.admits_arrayLengthLimit X.admits]; decide
  have hh1 : ¬ 10 * componentBytes (.array .long) > e.platform.maxHeapBytes := by rw [Launch.admits_maxHeapBytes X.admits]; decide
  have hh2 : ¬ 10 * componentBytes .long > e.platform.maxHeapBytes := by rw [Launch.admits_maxHeapBytes X.admits]; decide
  have XF := mz_stand (X.noted w1) a2 b2 10
  refine ⟨vm₁, XF, fun t ht => ?_⟩
  jvm_step X.here [hx, hd]
  simp only [multianewarray.sem, wp_bind', W.resolveClassAt_links (State.method?_setTop g X.here.top) g1]
  refine (popN_top (s := T.setVm vm₁) (f := g) (args := [.int 10, .int 10]) (rest := st) X.here.top (by rw [hst]; rfl)).mpr ?_
  simp only [List.mapM_cons, List.mapM_nil, wp_bind', wp_pure']
  refine mz_make (T := (T.setVm vm₁).setTop { g with stack := st }) hkA1 (by rw [eA]; exact hkindA) hkB1 (by rw [eB]; exact hkindB) hl hh1 hh2 r1 r2 fun d' acts' => ?_
  rw [mz_top]
  simp only [wp_bind', W.mark, W.pushRef, State.topJava?_setTop' _ XF.here.top, Option.some.injEq, exists_eq_left', State.setTop_setTop, State.heap_setTop]
  intro acts
  simp [jvm, XF.here.top]
  exact ht
end MZS
def upM (κ : Kp) (E : Nat → va_E) (n : Nat) : Nat → va_E := fun k => if k = n then .inl (kT κ, 10, .inr (.inr (.inr (.inr (fun j => some (κ.1 + (n + 1 + j))))))) else if n < k then eJ κ 10 (fun _ => 0) else E k
section MNA
variable {γ : Gm} {κ : Kp} {own : String} {cc : ByteArray} {nL : Nat} {rm : Room} {Q : State → Prop} {pc : Nat} {lv : List (Nat × Value)} {st : List Value} {n zc zs : Nat} {E : Nat → va_E}
theorem E_mna (C : CE γ κ own cc nL rm) {idx : Nat} (hlk : Cond.classLink own idx "[[J" ∈ gw) (harr : Cond.arrayClass .long ∈ gw) (hcells : zc + 11 ≤ rm.cells) (hslots : zs + 110 ≤ rm.slots) (hd : decode cc pc = .ok (.multianewarray idx 2, 4))
    (k : GE γ κ nL Q (pc + 4) lv (.ref (κ.1 + n) :: st) (n + 11) (upM κ E n) (zc + 1 + 10) (zs + 10 + 100)) : GE γ κ nL Q pc lv (.int 10 :: .int 10 :: st) n E zc zs := fun H locs ls hP hS hl => by
  intro T hT X
  have hcl : (Cond.classLink own idx ("[" ++ (FieldType.array .long).toString)).before γ.2.2.2.2.2.2.1 γ.2.2.2.2.1 = true := C.2.2.2.2.1 _ hlk
  obtain ⟨vm₁, X', step⟩ := mz_step X C.1 C.2.2.2.1 hcl C.2.2.2.2.2.1.2.2 (C.2.2.2.2.1 _ harr) (a := kT κ) (b := kJ κ) (C.2.2.2.2.2.1.1.1.2 4 _ rfl).2 (C.2.2.2.2.2.1.1.1.2 1 _ rfl).2 (g := F0 γ.2.2.2.2.2.1 pc ls (.int 10 :: .int 10 :: st)) rfl (by rw [C.2.1]; exact hd) rfl (by rw [C.2.2.2.2.2.2]; exact hcells) (by rw [C.2.2.2.2.2.2]; exact hslots)
  obtain ⟨f1, f2, f3, f4, -, -⟩ := mz_all (kT κ) (kJ κ) (T.setVm vm₁) 10
  generalize mz_st (kT κ) (kJ κ) (T.setVm vm₁) 10 = F at X' step f1 f2 f3 f4
  have hTh : (T.setVm vm₁).heap = H := hT
  have hz := hP.2
  rw [hTh] at f1 f2 f3 f4
  have hHS : HS κ (n + 11) (upM κ E n) F.heap := HS.of (fun k hk => by
    unfold upM
    by_cases z : k = n
    · rw [if_pos z, z]
      show F.heap[_]? = some (vp_cell _ _)
      rw [vp_cell_q, ← hz, f2]
      unfold mz_out
      refine congrArg some (arrV_congr fun j hj => ?_)
      show va_rf (if j < 10 then some (H.size + 1 + j) else none) = va_rf (some (κ.1 + (n + 1 + j)))
      rw [if_pos hj, show H.size + 1 + j = κ.1 + (n + 1 + j) by omega]
    · rw [if_neg z]
      by_cases y : n < k
      · rw [if_pos y]
        show F.heap[_]? = some (vp_cell _ _)
        rw [vp_cell_l, show κ.1 + k = H.size + 1 + (k - n - 1) by omega]
        exact f3 _ (by omega)
      · rw [if_neg y]
        exact (hP.at (by omega)).kept (f4 _ (by show κ.1 + k < H.size; omega))) (by rw [f1]; omega)
  obtain ⟨t, a1, b1⟩ := k F.heap locs ls hHS ⟨by have := hS.1; omega, fun x h1 h2 => (f4 x (by have := hS.1; omega)).trans (hS.2.1 x h1 h2), hS.2.2⟩ hl F rfl X'
  refine ⟨t, step t ?_, b1⟩
  rw [show T.heap.size = κ.1 + n by rw [hT]; exact hz]
  exact a1
end MNA
