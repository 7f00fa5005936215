/-! the making of the cells: a heap of n cells from b on, each as E has it -/
def wlp (b : Nat) (E : Nat → va_E) (n : Nat) : va_W := (List.range n).map (fun k => (b + k, E k))
theorem wlp_get {b : Nat} {E : Nat → va_E} {n k : Nat} (h : k < n) : (wlp b E n)[k]? = some (b + k, E k) := by
  simp [wlp, h]
theorem wlp_get2 {b : Nat} {E : Nat → va_E} {n k : Nat} {q : Nat × va_E} (h : (wlp b E n)[k]? = some q) : k < n ∧ q = (b + k, E k) := by
  have hk : k < n := by
    have := (List.getElem?_eq_some_iff.mp h).1
    simpa [wlp] using this
  exact ⟨hk, Option.some.inj (h.symm.trans (wlp_get hk))⟩
def HS (κ : Kp) (n : Nat) (E : Nat → va_E) (H : Heap) : Prop := va_P κ.2.2 cls8 (wlp κ.1 E n) H ∧ H.size = κ.1 + n
section HSS
variable {κ : Kp} {n : Nat} {E E' : Nat → va_E} {H H1 : Heap}
theorem HS.at (h : HS κ n E H) {k : Nat} (hk : k < n) : va_at κ.2.2 cls8 (κ.1 + k, E k) H := h.1 k _ (wlp_get hk)
theorem HS.of (h : ∀ k, k < n → va_at κ.2.2 cls8 (κ.1 + k, E k) H) (hz : H.size = κ.1 + n) : HS κ n E H := ⟨fun k q hq => by
  obtain ⟨hk, rfl⟩ := wlp_get2 hq
  exact h k hk, hz⟩
theorem HS.congr (h : HS κ n E H) (e : ∀ k, k < n → E k = E' k) : HS κ n E' H := HS.of (fun k hk => by rw [← e k hk]; exact h.at hk) h.2
theorem HS.set (h : HS κ n E H) {k : Nat} {e : va_E} (h1 : va_at κ.2.2 cls8 (κ.1 + k, e) H1) (hz : H1.size = H.size) (o : ∀ q, q ≠ κ.1 + k → H1[q]? = H[q]?) : HS κ n (va_up E k e) H1 := HS.of (fun j hj => by
  by_cases z : j = k
  · subst z; rw [show va_up E j e j = e from if_pos rfl]; exact h1
  · rw [show va_up E k e j = E j from if_neg z]
    exact (h.at hj).kept (o (κ.1 + j) (by omega))) (by rw [hz]; exact h.2)
theorem HS.push (h : HS κ n E H) {e : va_E} (h1 : va_at κ.2.2 cls8 (κ.1 + n, e) H1) (hz : H1.size = κ.1 + n + 1) (o : ∀ q, q < κ.1 + n → H1[q]? = H[q]?) : HS κ (n + 1) (va_up E n e) H1 := HS.of (fun j hj => by
  by_cases z : j = n
  · subst z; rw [show va_up E j e j = e from if_pos rfl]; exact h1
  · rw [show va_up E n e j = E j from if_neg z]
    exact (h.at (by omega)).kept (o (κ.1 + j) (by omega))) (by rw [hz]; rfl)
end HSS
/-- what the tables say of arrays of references, beside the words -/
def KX (κ : Kp) (U : State) : Prop := KK κ U ∧ va_AO "NetForms$Form" U ∧ (Cond.arrayOver (.array .long)).before #[] U = true
theorem KX.warm {κ : Kp} {s U : State} (hW : s.WarmedH U.vm) (h : KX κ s) : KX κ U := ⟨h.1.warm hW, h.2.1.moved hW.alike, by
  have e := Cond.arrayOver_setVmC (args := #[]) hW.alike (.array .long)
  rw [h.2.2] at e
  exact e⟩
theorem KX.same {κ : Kp} {s U : State} (e : s.vm = U.vm) (h : KX κ s) : KX κ U := ⟨h.1.same e, h.2.1.moved (e ▸ Vm.Alike.refl s.vm), by
  have e2 := Cond.arrayOver_setVmC (args := #[]) (s := s) (vm' := U.vm) (e ▸ Vm.Alike.refl s.vm) (.array .long)
  rw [h.2.2] at e2
  exact e2⟩
def CE (γ : Gm) (κ : Kp) (own : String) (cc : ByteArray) (nL : Nat) (rm : Room) : Prop :=
  γ.1.tables.exec = Jvm.exec ∧ γ.2.2.2.2.2.2.2.2.2.code = cc ∧ γ.2.2.2.2.2.2.2.2.2.maxLocals = nL ∧ γ.2.2.2.2.1.vm.findClass own = some γ.2.2.2.2.2.1.cls ∧ (∀ w ∈ gw, w.before γ.2.2.2.2.2.2.1 γ.2.2.2.2.1 = true) ∧ KX κ γ.2.2.2.2.1 ∧ γ.2.2.2.1 = rm
def GE (γ : Gm) (κ : Kp) (nL : Nat) (Q : State → Prop) (pc : Nat) (lv : List (Nat × Value)) (st : List Value) (n : Nat) (E : Nat → va_E) (zc zs : Nat) : Prop :=
  ∀ (H : Heap) (locs : List Loc) (ls : Array Slot), HS κ n E H → va_S (Ab κ) γ.2.2.2.2.1.heap H locs → lv_has ls nL lv →
    W γ.1 γ.2.1 γ.2.2.1 γ.2.2.2.1 γ.2.2.2.2.1 γ.2.2.2.2.2.1 γ.2.2.2.2.2.2.1 γ.2.2.2.2.2.2.2.1 γ.2.2.2.2.2.2.2.2.1 γ.2.2.2.2.2.2.2.2.2 H locs zc zs Q (F0 γ.2.2.2.2.2.1 pc ls st)
def qce (κ : Kp) (n : Nat) (E : Nat → va_E) : Array Value → State → Outcome → State → Prop := fun _ st oc t => (oc = .returned none ∧ HS κ n E t.heap) ∧ va_F (Ab κ) st t
def Et (l : Launch) (κ : Kp) (y : MethodName) (cc : ByteArray) (nL : Nat) (rm : Room) (As : List Value) (n : Nat) (E : Nat → va_E) (mc ms n' : Nat) (E' : Nat → va_E) : Prop :=
  Met l y (Cond.code y cc nL none :: gw) rm (va_Pc As (fun U => HS κ n E U.heap ∧ KX κ U)) (qce κ n' E') mc ms (Ab κ)
def Eq' (γ : Gm) (κ : Kp) (n : Nat) (E : Nat → va_E) (mc ms : Nat) : State → Prop := MQ γ.2.2.2.2.2.2.2.1 (qce κ n E) γ.2.2.2.2.2.2.1 γ.2.2.2.2.1 mc ms (Ab κ)
theorem Et_of {l : Launch} {κ : Kp} {y : MethodName} {cc : ByteArray} {nL : Nat} {rm : Room} {As : List Value} {n n' mc ms : Nat} {E E' : Nat → va_E} (hy : plainName y.cls = true) (hn : (lg_sl As).length ≤ nL)
    (h : ∀ γ : Gm, γ.2.1 = l → CE γ κ y.cls cc nL rm → Rt γ none → γ.2.2.2.2.2.2.2.2.1.name = y.name → GE γ κ nL (Eq' γ κ n' E' mc ms) 0 (lv_args 0 As) [] n E 0 0) : Et l κ y cc nL rm As n E mc ms n' E' := by
  refine Met.ofW (cc := cc) (maxL := nL) (ret := none) hy rfl ?_
  intro p e s m args below meth c s₁ B hml hv
  obtain ⟨rfl, hP, hK⟩ := hv
  have hts := atoms_spec (ws := Cond.code y cc nL none :: gw) B.pre
  have hown : s.vm.findClass y.cls = some m.cls := findClass_of_methodNamed B.named
  have hin : meth.name = y.name := (name_of_methodNamed B.named B.method).1
  have hl := lv_entry As hn
  rw [lg_entry_eq]
  generalize (lg_sl As ++ List.replicate (nL - (lg_sl As).length) Slot.unset).toArray = ls at hl ⊢
  exact h (p, l, e, rm, s, m, As.toArray, below, meth, c) rfl ⟨B.exec, B.bytes, hml, hown, fun w hw => hts w (List.mem_cons_of_mem _ hw), hK, rfl⟩ ⟨B.returns, B.notSynchronized⟩ hin s.heap [] ls hP va_S.rf hl
section ER
variable {γ : Gm} {κ : Kp} {own : String} {cc : ByteArray} {nL : Nat} {rm : Room} {Q : State → Prop} {pc : Nat} {lv : List (Nat × Value)} {st : List Value} {n zc zs : Nat} {E : Nat → va_E}
theorem E_congr {E' : Nat → va_E} (e : ∀ k, k < n → E k = E' k) (k : GE γ κ nL Q pc lv st n E' zc zs) : GE γ κ nL Q pc lv st n E zc zs := fun H locs ls hP hS hl => k H locs ls (hP.congr e) hS hl
theorem E_iconst (C : CE γ κ own cc nL rm) {i : Int} {v : Int32} (hd : decode cc pc = .ok (.iconst i, 1)) (hv : Int32.ofInt i = v) (k : GE γ κ nL Q (pc + 1) lv (.int v :: st) n E zc zs) : GE γ κ nL Q pc lv st n E zc zs := fun H locs ls hP hS hl => lv_iconst C.1 C.2.1 hd hv (k H locs ls hP hS hl)
theorem E_bipush (C : CE γ κ own cc nL rm) {i : Int} {v : Int32} (hd : decode cc pc = .ok (.bipush i, 2)) (hv : (Int8.ofInt i).toInt32 = v) (k : GE γ κ nL Q (pc + 2) lv (.int v :: st) n E zc zs) : GE γ κ nL Q pc lv st n E zc zs := fun H locs ls hP hS hl => lv_bipush C.1 C.2.1 hd hv (k H locs ls hP hS hl)
theorem E_sipush (C : CE γ κ own cc nL rm) {i : Int} {v : Int32} (hd : decode cc pc = .ok (.sipush i, 3)) (hv : (Int16.ofInt i).toInt32 = v) (k : GE γ κ nL Q (pc + 3) lv (.int v :: st) n E zc zs) : GE γ κ nL Q pc lv st n E zc zs := fun H locs ls hP hS hl => lv_sipush C.1 C.2.1 hd hv (k H locs ls hP hS hl)
theorem E_aload_n (C : CE γ κ own cc nL rm) {q : Fin 4} {i : Nat} {x : Nat} (j : Nat) (hd : decode cc pc = .ok (.aload_n q, 1)) (hi : (q : Nat) = i) (hx : lv[j]? = some (i, .ref x)) (k : GE γ κ nL Q (pc + 1) lv (.ref x :: st) n E zc zs) : GE γ κ nL Q pc lv st n E zc zs := fun H locs ls hP hS hl => lv_aload_n C.1 C.2.1 hd hi (lv_at hl j hx) (k H locs ls hP hS hl)
theorem E_iload_n (C : CE γ κ own cc nL rm) {q : Fin 4} {i : Nat} {x : Int32} (j : Nat) (hd : decode cc pc = .ok (.iload_n q, 1)) (hi : (q : Nat) = i) (hx : lv[j]? = some (i, .int x)) (k : GE γ κ nL Q (pc + 1) lv (.int x :: st) n E zc zs) : GE γ κ nL Q pc lv st n E zc zs := fun H locs ls hP hS hl => lv_iload_n C.1 C.2.1 hd hi (lv_at hl j hx) (k H locs ls hP hS hl)
theorem E_istore_n (C : CE γ κ own cc nL rm) {q : Fin 4} {i : Nat} {x : Int32} {lv' : List (Nat × Value)} (hd : decode cc pc = .ok (.istore_n q, 1)) (hi : (q : Nat) = i) (hn : i < nL) (hv : (i, Value.int x) :: lv.filter (fun q => !(q.1 == i) && !(q.1 + 1 == i && q.2.category == 2)) = lv') (k : GE γ κ nL Q (pc + 1) lv' st n E zc zs) : GE γ κ nL Q pc lv (.int x :: st) n E zc zs := fun H locs ls hP hS hl => lv_istore_n C.1 C.2.1 hd hi hl hn hv (fun ls hl => k H locs ls hP hS hl)
theorem E_astore_n (C : CE γ κ own cc nL rm) {q : Fin 4} {i : Nat} {x : Nat} {lv' : List (Nat × Value)} (hd : decode cc pc = .ok (.astore_n q, 1)) (hi : (q : Nat) = i) (hn : i < nL) (hv : (i, Value.ref x) :: lv.filter (fun q => !(q.1 == i) && !(q.1 + 1 == i && q.2.category == 2)) = lv') (k : GE γ κ nL Q (pc + 1) lv' st n E zc zs) : GE γ κ nL Q pc lv (.ref x :: st) n E zc zs := fun H locs ls hP hS hl => lv_astore_n C.1 C.2.1 hd hi hl hn hv (fun ls hl => k H locs ls hP hS hl)
theorem E_iinc (C : CE γ κ own cc nL rm) {i : Nat} {a : Int} {x v : Int32} {lv' : List (Nat × Value)} (j : Nat) (hd : decode cc pc = .ok (.iinc i a, 3)) (hx : lv[j]? = some (i, .int x)) (hv : x + Int32.ofInt a = v) (hn : i < nL) (hw : (i, Value.int v) :: lv.filter (fun q => !(q.1 == i) && !(q.1 + 1 == i && q.2.category == 2)) = lv') (k : GE γ κ nL Q (pc + 3) lv' st n E zc zs) : GE γ κ nL Q pc lv st n E zc zs := fun H locs ls hP hS hl => lv_iinc C.1 C.2.1 hd hl hx hv hn hw (fun ls hl => k H locs ls hP hS hl)
theorem E_dup (C : CE γ κ own cc nL rm) {a : Value} (hd : decode cc pc = .ok (.dup, 1)) (h1 : a.category = 1) (k : GE γ κ nL Q (pc + 1) lv (a :: a :: st) n E zc zs) : GE γ κ nL Q pc lv (a :: st) n E zc zs := fun H locs ls hP hS hl => lv_dup C.1 C.2.1 hd h1 (k H locs ls hP hS hl)
theorem E_goto (C : CE γ κ own cc nL rm) {off : Int} {tgt : Nat} (hd : decode cc pc = .ok (.goto off, 3)) (ht : (pc : Int) + off = (tgt : Int)) (k : GE γ κ nL Q tgt lv st n E zc zs) : GE γ κ nL Q pc lv st n E zc zs := fun H locs ls hP hS hl => lv_goto C.1 C.2.1 hd ht (k H locs ls hP hS hl)
theorem E_icmp_ge (C : CE γ κ own cc nL rm) {x y : Int32} {off : Int} {tgt : Nat} (hd : decode cc pc = .ok (.if_icmp .ge off, 3)) (ht : (pc : Int) + off = (tgt : Int)) (kt : y ≤ x → GE γ κ nL Q tgt lv st n E zc zs) (kf : ¬ y ≤ x → GE γ κ nL Q (pc + 3) lv st n E zc zs) : GE γ κ nL Q pc lv (.int y :: .int x :: st) n E zc zs := fun H locs ls hP hS hl => lv_icmp_ge C.1 C.2.1 hd ht (fun q => kt q H locs ls hP hS hl) (fun q => kf q H locs ls hP hS hl)
theorem E_objInit (C : CE γ κ own cc nL rm) {idx a : Nat} (hlk : Cond.methodLink own idx Lib.objectInit ∈ gw) (hi : Cond.instanceMethod Lib.objectInit ∈ gw) (hc : Cond.code Lib.objectInit ⟨#[0xb1]⟩ 1 none ∈ gw) (hd : decode cc pc = .ok (.invokespecial idx, 3)) (hf : 1 ≤ rm.frames) (hlo : 20 ≤ rm.locals) (hst : (st.map fun v => v.category).sum ≤ 8)
    (k : GE γ κ nL Q (pc + 3) lv st n E zc zs) : GE γ κ nL Q pc lv (.ref a :: st) n E zc zs := fun H locs ls hP hS hl =>
  W.objInit C.1 C.2.1 C.2.2.2.1 (C.2.2.2.2.1 _ hlk) (C.2.2.2.2.1 _ hi) (C.2.2.2.2.1 _ hc) rfl (by rw [C.2.2.1]; exact hl.1) rfl hd (by rw [C.2.2.2.2.2.2]; exact hf) (by
    have := rm_sum (m := γ.2.2.2.2.2.1) (pc := pc) (ls := ls) (st := .ref a :: st) hst
    rw [C.2.2.2.2.2.2]; omega) (k H locs ls hP hS hl)
theorem E_new (C : CE γ κ own cc nL rm) {ci N idx : Nat} {CN : String} {T : u_T} {fs : List Value} (hc : cls8[ci]? = some (CN, T, N)) (hin : ∀ w ∈ u_ws CN T N, w ∈ gw) (ty : Nat → FieldType) (hty : ∀ k, k < N → parseFieldDescriptor (T k).2.2.1 = some (ty k)) (hlk : Cond.classLink own idx CN ∈ gw) (hinst : Cond.instantiable CN N ∈ gw) (hini : Cond.initialized CN ∈ gw) (hfs : ∀ j, j < N → defaultValue (ty j) = vp_V fs j) (hcells : zc + 1 ≤ rm.cells) (hslots : zs + N ≤ rm.slots) (hd : decode cc pc = .ok (.new idx, 3))
    (k : GE γ κ nL Q (pc + 3) lv (.ref (κ.1 + n) :: st) (n + 1) (va_up E n (.inr (ci, fs))) (zc + 1) (zs + N)) : GE γ κ nL Q pc lv st n E zc zs := fun H locs ls hP hS hl => by
  have hKn := C.2.2.2.2.2.1.1.1.1 ci _ hc
  refine W.newcK C.1 C.2.1 C.2.2.2.1 (C.2.2.2.2.1 _ hlk) (C.2.2.2.2.1 _ hinst) (C.2.2.2.2.1 _ hini) rfl hd (by rw [C.2.2.2.2.2.2]; exact hcells) (by rw [C.2.2.2.2.2.2]; exact hslots) hKn.2.1 hP.2 fun H1 kC hkC e1 z1 o1 => ?_
  exact k H1 locs ls (hP.push ⟨_, hc, (u_born ty C.2.2.2.2.1 hin hKn hkC e1 hty).to hfs⟩ z1 o1) ⟨by have := hS.1; have := hP.2; omega, fun x h1 h2 => (o1 x (by have := hS.1; have := hP.2; omega)).trans (hS.2.1 x h1 h2), hS.2.2⟩ hl
theorem E_newa (C : CE γ κ own cc nL rm) {at' : ArrayType} {ty : FieldType} (hty : newarray.typeOf at' = ty) (harr : Cond.arrayClass ty ∈ gw) (t0 : Nat) {cA0 : ClassId} (ht : (tysK κ)[t0]? = some (cA0, ty)) (hra : ∀ U, va_RA U cA0 ty → U.vm.findClass ("[" ++ ty.toString) = some cA0) {v : Int32} {N : Nat} {e : va_E} (he : ∀ (H1 : Heap) (q : Nat), H1[q]? = some (arrV cA0 N (fun _ => defaultValue ty)) → va_at κ.2.2 cls8 (q, e) H1) (hn : ¬ v < 0) (hN : v.toNatClampNeg = N) (hb : N * componentBytes ty ≤ 536870912) (hcells : zc + 1 ≤ rm.cells) (hslots : zs + N ≤ rm.slots) (hd : decode cc pc = .ok (.newarray at', 2))
    (k : GE γ κ nL Q (pc + 2) lv (.ref (κ.1 + n) :: st) (n + 1) (va_up E n e) (zc + 1) (zs + N)) : GE γ κ nL Q pc lv (.int v :: st) n E zc zs := fun H locs ls hP hS hl => by
  subst hty
  refine va_newaK C.1 C.2.1 (C.2.2.2.2.1 _ harr) rfl hd rfl hn hN hb (by rw [C.2.2.2.2.2.2]; exact hcells) (by rw [C.2.2.2.2.2.2]; exact hslots) hP.2 fun H1 cA e1 z1 o1 hAr hNm => ?_
  have ec : cA = cA0 := Option.some.inj (hNm.symm.trans (hra _ (C.2.2.2.2.2.1.1.1.2 t0 _ ht).2))
  subst ec
  exact k H1 locs ls (hP.push (he H1 _ e1) z1 o1) ⟨by have := hS.1; have := hP.2; omega, fun x h1 h2 => (o1 x (by have := hS.1; have := hP.2; omega)).trans (hS.2.1 x h1 h2), hS.2.2⟩ hl
theorem E_newI (C : CE γ κ own cc nL rm) (harr : Cond.arrayClass .int ∈ gw) {v : Int32} {N : Nat} (hn : ¬ v < 0) (hN : v.toNatClampNeg = N) (hb : N * componentBytes .int ≤ 536870912) (hcells : zc + 1 ≤ rm.cells) (hslots : zs + N ≤ rm.slots) (hd : decode cc pc = .ok (.newarray .int, 2))
    (k : GE γ κ nL Q (pc + 2) lv (.ref (κ.1 + n) :: st) (n + 1) (va_up E n (eI κ N (fun _ => 0))) (zc + 1) (zs + N)) : GE γ κ nL Q pc lv (.int v :: st) n E zc zs :=
  E_newa C (at' := .int) (ty := .int) rfl harr 0 rfl (fun _ h => h) (fun H1 q h => by show H1[q]? = some (vp_cell _ _); rw [vp_cell_i]; exact h) hn hN hb hcells hslots hd k
theorem E_newJ (C : CE γ κ own cc nL rm) (harr : Cond.arrayClass .long ∈ gw) {v : Int32} {N : Nat} (hn : ¬ v < 0) (hN : v.toNatClampNeg = N) (hb : N * componentBytes .long ≤ 536870912) (hcells : zc + 1 ≤ rm.cells) (hslots : zs + N ≤ rm.slots) (hd : decode cc pc = .ok (.newarray .long, 2))
    (k : GE γ κ nL Q (pc + 2) lv (.ref (κ.1 + n) :: st) (n + 1) (va_up E n (eJ κ N (fun _ => 0))) (zc + 1) (zs + N)) : GE γ κ nL Q pc lv (.int v :: st) n E zc zs :=
  E_newa C (at' := .long) (ty := .long) rfl harr 1 rfl (fun _ h => h) (fun H1 q h => by show H1[q]? = some (vp_cell _ _); rw [vp_cell_l]; exact h) hn hN hb hcells hslots hd k
theorem E_newZ (C : CE γ κ own cc nL rm) (harr : Cond.arrayClass .boolean ∈ gw) {v : Int32} {N : Nat} (hn : ¬ v < 0) (hN : v.toNatClampNeg = N) (hb : N * componentBytes .boolean ≤ 536870912) (hcells : zc + 1 ≤ rm.cells) (hslots : zs + N ≤ rm.slots) (hd : decode cc pc = .ok (.newarray .boolean, 2))
    (k : GE γ κ nL Q (pc + 2) lv (.ref (κ.1 + n) :: st) (n + 1) (va_up E n (eZ κ N (fun _ => 0))) (zc + 1) (zs + N)) : GE γ κ nL Q pc lv (.int v :: st) n E zc zs :=
  E_newa C (at' := .boolean) (ty := .boolean) rfl harr 2 rfl (fun _ h => h) (fun H1 q h => by show H1[q]? = some (vp_cell _ _); rw [vp_cell_i]; exact h) hn hN hb hcells hslots hd k
theorem E_anewF (C : CE γ κ own cc nL rm) {idx : Nat} (hlk : Cond.classLink own idx "NetForms$Form" ∈ gw) {v : Int32} {N : Nat} (hn : ¬ v < 0) (hN : v.toNatClampNeg = N) (hb : N * 4 ≤ 536870912) (hcells : zc + 1 ≤ rm.cells) (hslots : zs + N ≤ rm.slots) (hd : decode cc pc = .ok (.anewarray idx, 3))
    (k : GE γ κ nL Q (pc + 3) lv (.ref (κ.1 + n) :: st) (n + 1) (va_up E n (.inl (kF κ, N, .inr (.inr (.inr (.inr (fun _ => none))))))) (zc + 1) (zs + N)) : GE γ κ nL Q pc lv (.int v :: st) n E zc zs := fun H locs ls hP hS hl => by
  subst hN
  refine W.anew C.1 C.2.1 C.2.2.2.1 (C.2.2.2.2.1 _ hlk) (va_AO.use C.2.2.2.2.2.1.2.1) rfl hd rfl hn hb (by rw [C.2.2.2.2.2.2]; exact hcells) (by rw [C.2.2.2.2.2.2]; exact hslots) fun cA kA comp f1 f2 f3 f4 => ?_
  obtain ⟨_, _, -, -, -, g4⟩ := (C.2.2.2.2.2.1.1.1.2 3 _ rfl).2
  have ec : cA = kF κ := Option.some.inj (f1.symm.trans g4)
  subst ec
  generalize hH1 : H.push ({ cls := kF κ, slots := Array.replicate v.toNatClampNeg .null, vm := .none } : Cell) = H1
  have z1 : H1.size = κ.1 + n + 1 := by rw [← hH1, Array.size_push, hP.2]
  have e1 : H1[κ.1 + n]? = some (arrV (kF κ) v.toNatClampNeg (fun _ => .null)) := by rw [← hH1, ← hP.2, Array.getElem?_push_size, ← arrV_new]
  have o1 : ∀ q : Nat, q < κ.1 + n → H1[q]? = H[q]? := fun q hq => by rw [← hH1, Array.getElem?_push, if_neg (by have := hP.2; omega)]
  have := k H1 locs ls (hP.push (by show H1[_]? = some (vp_cell _ _); rw [vp_cell_q]; exact e1) z1 o1) ⟨by have := hS.1; have := hP.2; omega, fun x h1 h2 => (o1 x (by have := hS.1; have := hP.2; omega)).trans (hS.2.1 x h1 h2), hS.2.2⟩ hl
  rw [← hP.2] at this
  exact this
theorem E_put (C : CE γ κ own cc nL rm) {ci k j N idx : Nat} {CN : String} {T : u_T} {fs : List Value} {v : Value} {ty : FieldType} (hk : k < n) (he : E k = .inr (ci, fs)) (hc : cls8[ci]? = some (CN, T, N)) (hj : j < N) (hin : ∀ w ∈ u_ws CN T N, w ∈ gw) (ty0 : Nat → FieldType) (hty : ∀ k, k < N → parseFieldDescriptor (T k).2.2.1 = some (ty0 k)) (hnm : ∀ a, a < N → ∀ b, b < N → a ≠ b → (T a).2.1 ≠ (T b).2.1) (hlink : Cond.fieldLink own idx CN (T j).2.1 (T j).2.2.1 ∈ gw) (hsame : (T j).1 = CN) (hfin : (T j).2.2.2 = false) (hde : parseFieldDescriptor (T j).2.2.1 = some ty) (hnar : narrow ty v = v) (hfit : fits ty v = true) (hl : j < fs.length) (hd : decode cc pc = .ok (.putfield idx, 3))
    (kk : GE γ κ nL Q (pc + 3) lv st n (va_up E k (.inr (ci, fs.set j v))) zc zs) : GE γ κ nL Q pc lv (v :: .ref (κ.1 + k) :: st) n E zc zs := fun H locs ls hP hS hll => by
  have hK := C.2.2.2.2.2.1.1.1
  have hap := va_apart (own := own) C.2.2.2.2.1 hin ty0 hty hnm hK hc
  have hat := hP.at hk
  rw [he] at hat
  obtain ⟨r, h1, cell, q1, q2, q3, q4⟩ := hat
  have hr : r = (CN, T, N) := Option.some.inj (h1.symm.trans hc)
  subst hr
  obtain ⟨hSl, hfc, kC, hkC, hkind⟩ := hK.1 ci _ hc
  obtain ⟨cf, kf, fi, f, hi, hsl⟩ := hSl j hj
  have hlay := C.2.2.2.2.1 _ (hin _ (u_in_lay hj))
  unfold u_lay at hlay
  rw [if_neg (by rw [hfin]; decide)] at hlay
  have hst := (u_facts hfc hkC (u_lays C.2.2.2.2.1 hin hj) hi).1
  have h6 := u_store hfc hkC hkind hlay hi hde hnar hfit
  refine W.putK C.1 C.2.1 (f := f) ⟨C.2.2.2.1, C.2.2.2.2.1 _ hlink, ⟨_, _, _, by rw [← hsame]; exact hi⟩, hst⟩ (by rw [q2]; exact h6) q1 q3 (by rw [hsl]; exact k2_hasslot (q4 j hj)) rfl rfl hd fun H' e1 e2 e3 => ?_
  rw [hsl] at e1 ⊢
  exact kk H' _ ls (hP.set ⟨_, hc, t_OB.to (V := updV (vp_V fs) j v) ⟨_, e1, q2, q3, t_set q4 hap hj v⟩ (fun j' _ => vp_updV_set hl v j')⟩ e2 e3) (hS.put e2 e3 (Nat.le_add_right _ _)) hll
theorem E_putF (C : CE γ κ own cc nL rm) (hnm0 : γ.2.2.2.2.2.2.2.2.1.name = "<init>") {ci k j N idx : Nat} {T : u_T} {fs : List Value} {v : Value} {ty : FieldType} (hk : k < n) (he : E k = .inr (ci, fs)) (hc : cls8[ci]? = some (own, T, N)) (hj : j < N) (hin : ∀ w ∈ u_ws own T N, w ∈ gw) (ty0 : Nat → FieldType) (hty : ∀ k, k < N → parseFieldDescriptor (T k).2.2.1 = some (ty0 k)) (hnm : ∀ a, a < N → ∀ b, b < N → a ≠ b → (T a).2.1 ≠ (T b).2.1) (hlink : Cond.fieldLink own idx own (T j).2.1 (T j).2.2.1 ∈ gw) (hsame : (T j).1 = own) (hfin : (T j).2.2.2 = true) (hde : parseFieldDescriptor (T j).2.2.1 = some ty) (hnar : narrow ty v = v) (hfit : fits ty v = true) (hl : j < fs.length) (hd : decode cc pc = .ok (.putfield idx, 3))
    (kk : GE γ κ nL Q (pc + 3) lv st n (va_up E k (.inr (ci, fs.set j v))) zc zs) : GE γ κ nL Q pc lv (v :: .ref (κ.1 + k) :: st) n E zc zs := fun H locs ls hP hS hll => by
  have hK := C.2.2.2.2.2.1.1.1
  have hap := va_apart (own := own) C.2.2.2.2.1 hin ty0 hty hnm hK hc
  have hat := hP.at hk
  rw [he] at hat
  obtain ⟨r, h1, cell, q1, q2, q3, q4⟩ := hat
  have hr : r = (own, T, N) := Option.some.inj (h1.symm.trans hc)
  subst hr
  obtain ⟨hSl, hfc, kC, hkC, hkind⟩ := hK.1 ci _ hc
  obtain ⟨cf, kf, fi, f, hi, hsl⟩ := hSl j hj
  have hlay := C.2.2.2.2.1 _ (hin _ (u_in_lay hj))
  unfold u_lay at hlay
  rw [if_pos hfin] at hlay
  have hst := (u_facts hfc hkC (u_lays C.2.2.2.2.1 hin hj) hi).1
  have hcf : γ.2.2.2.2.2.1.cls = cf := by
    obtain ⟨_, _, c', _, _, _, -, -, hf', -, -, -, hown2, -⟩ := Cond.laysFinal_spec hlay
    have e1 : c' = cf := by have := hi.symm.trans hf'; simp at this; exact this.1.symm
    rw [hsame] at hown2
    rw [← e1]; exact Option.some.inj (C.2.2.2.1.symm.trans hown2)
  have h6 := u_fits hfc hkC hkind (Or.inr hlay) hi hde hnar hfit
  refine W.putFinK C.1 C.2.1 C.2.2.2.1 (C.2.2.2.2.1 _ hlink) (by rw [← hsame]; exact hi) hst hcf hnm0 (by rw [q2]; exact h6) q1 q3 (by rw [hsl]; exact k2_hasslot (q4 j hj)) rfl rfl hd fun H' e1 e2 e3 => ?_
  rw [hsl] at e1 ⊢
  exact kk H' _ ls (hP.set ⟨_, hc, t_OB.to (V := updV (vp_V fs) j v) ⟨_, e1, q2, q3, t_set q4 hap hj v⟩ (fun j' _ => vp_updV_set hl v j')⟩ e2 e3) (hS.put e2 e3 (Nat.le_add_right _ _)) hll
theorem E_get (C : CE γ κ own cc nL rm) {ci k j N idx : Nat} {CN : String} {T : u_T} {fs : List Value} {v : Value} (hk : k < n) (he : E k = .inr (ci, fs)) (hc : cls8[ci]? = some (CN, T, N)) (hj : j < N) (hin : ∀ w ∈ u_ws CN T N, w ∈ gw) (hlink : Cond.fieldLink own idx CN (T j).2.1 (T j).2.2.1 ∈ gw) (hsame : (T j).1 = CN) (hv : fs[j]? = some v) (hd : decode cc pc = .ok (.getfield idx, 3))
    (kk : GE γ κ nL Q (pc + 3) lv (v :: st) n E zc zs) : GE γ κ nL Q pc lv (.ref (κ.1 + k) :: st) n E zc zs := fun H locs ls hP hS hl =>
  va_get (D := κ.2.2) (cl := cls8) (tys := tysK κ) (ws := wlp κ.1 E n) (Ts := gw) C.1 C.2.1 C.2.2.2.2.1 hin C.2.2.2.1 C.2.2.2.2.2.1.1.1 hP.1 k (by rw [wlp_get hk, he]) hc j hj (C.2.2.2.2.1 _ hlink) (fun x h => by rw [hsame] at h; exact h) hv hd (kk H locs ls hP hS hl)
theorem E_iast (C : CE γ κ own cc nL rm) {k N : Nat} {f : Nat → Int32} (hk : k < n) (he : E k = eI κ N f) {i x : Int32} (hin : vp_in i N) (hd : decode cc pc = .ok (.iastore, 1))
    (kk : GE γ κ nL Q (pc + 1) lv st n (va_up E k (eI κ N (upd f i.toNatClampNeg x))) zc zs) : GE γ κ nL Q pc lv (.int x :: .int i :: .ref (κ.1 + k) :: st) n E zc zs := fun H locs ls hP hS hl => by
  have hat := hP.at hk
  rw [he] at hat
  refine W.iast C.1 C.2.1 hat ((C.2.2.2.2.2.1.1.1.2 0 _ rfl).1 N (fun j => .int (f j))) (fun q => by cases q) (by show ¬ (i < 0 ∨ (arrV _ _ _).slots.size ≤ _); rw [arrV_size]; exact hin) rfl rfl hd fun H1 e z oq => ?_
  refine kk H1 _ ls (hP.set ?_ z oq) (hS.put z oq (Nat.le_add_right _ _)) hl
  show H1[_]? = some (vp_cell _ _)
  rw [e, vp_cell_i, vp_cell_i, arrV_store]
  congr 2
  funext q
  by_cases hq : q = i.toNatClampNeg
  · subst hq
    simp [updV, upd]
  · simp [updV, upd, hq]
theorem E_aastF (C : CE γ κ own cc nL rm) {k kv : Nat} {f : Nat → Option Nat} {vs : List Value} (hk : k < n) (he : E k = .inl (kF κ, 12, .inr (.inr (.inr (.inr f))))) (hkv : kv < n) (hev : E kv = .inr (2, vs)) {i : Int32} (hin : vp_in i 12) (hd : decode cc pc = .ok (.aastore, 1))
    (kk : GE γ κ nL Q (pc + 1) lv st n (va_up E k (.inl (kF κ, 12, .inr (.inr (.inr (.inr (va_up f i.toNatClampNeg (some (κ.1 + kv)))))))) ) zc zs) : GE γ κ nL Q pc lv (.ref (κ.1 + kv) :: .int i :: .ref (κ.1 + k) :: st) n E zc zs := fun H locs ls hP hS hl => by
  have hlt : i.toNatClampNeg < 12 := Nat.not_le.mp fun q => hin (Or.inr q)
  have h0 : ¬ i < 0 := fun q => hin (Or.inl q)
  have hat := hP.at hk
  rw [he] at hat
  have hav := hP.at hkv
  rw [hev] at hav
  obtain ⟨r', hr', cellV, g1, g2, g3, -⟩ := hav
  have hcls := (C.2.2.2.2.2.1.1.1.1 2 _ rfl).2
  obtain ⟨kA, comp, k1, k2, k3, -⟩ := (C.2.2.2.2.2.1.1.1.2 3 _ rfl).2
  have hcomp : comp = κ.2.2.1 2 := Option.some.inj (k3.symm.trans hcls.1)
  subst hcomp
  have hcl2 := hcls
  obtain ⟨kC, hkC, -⟩ := hcls.2
  refine W.aast C.1 C.2.1 hat (fun q h => by cases h) (fun h => by cases h) k1 k2 rfl hkC ⟨h0, by show _ < (arrV _ _ _).slots.size; rw [arrV_size]; exact hlt⟩ g1 (fun q h => by rw [g3] at h; cases h) (by rw [g2]; exact hkC) (by rw [g2]; exact va_assign hcl2) rfl rfl hd fun H1 e z oq => ?_
  refine kk H1 _ ls (hP.set ?_ z oq) (hS.put z oq (Nat.le_add_right _ _)) hl
  show H1[_]? = some (vp_cell _ _)
  rw [e, vp_cell_q, vp_cell_q, arrV_store]
  congr 2
  funext q
  by_cases hq : q = i.toNatClampNeg
  · subst hq
    simp [updV, va_up, va_rf]
  · simp [updV, va_up, hq]
theorem pce_blind {As : List Value} : FrameBlind (va_Pc As (fun U => HS κ n E U.heap ∧ KX κ U)) := fun a U g mk q => by
  obtain ⟨q0, q1, q2⟩ := q
  exact ⟨q0, q1, q2.same (U := U.calling g mk a) rfl⟩
theorem E_run {H : Heap} {locs : List Loc} {ls : Array Slot} {st0 rest : List Value} {a : Array Value} {mc ms n' : Nat} {E' : Nat → va_E} (hS : va_S (Ab κ) γ.2.2.2.2.1.heap H locs) (hl : lv_has ls nL lv)
    (hr : va_Run γ.1 γ.2.1 γ.2.2.1 γ.2.2.2.1 γ.2.2.2.2.1 γ.2.2.2.2.2.1 γ.2.2.2.2.2.2.1 γ.2.2.2.2.2.2.2.1 γ.2.2.2.2.2.2.2.2.1 γ.2.2.2.2.2.2.2.2.2 H locs zc zs mc ms (F0 γ.2.2.2.2.2.1 pc ls st0) rest (qce κ n' E' a) (Ab κ))
    (kk : GE γ κ nL Q (pc + 3) lv rest n' E' (zc + mc) (zs + ms)) :
    W γ.1 γ.2.1 γ.2.2.1 γ.2.2.2.1 γ.2.2.2.2.1 γ.2.2.2.2.2.1 γ.2.2.2.2.2.2.1 γ.2.2.2.2.2.2.2.1 γ.2.2.2.2.2.2.2.2.1 γ.2.2.2.2.2.2.2.2.2 H locs zc zs Q (F0 γ.2.2.2.2.2.1 pc ls st0) := by
  intro T hT X
  obtain ⟨v, st₀, t, T', L, h0, X', hL, e1, e2, ⟨⟨hv, hh⟩, hz, hk⟩, stp⟩ := hr T hT X
  cases hv
  rw [h0] at hz hk
  obtain ⟨t2, a1, b1⟩ := kk T'.heap (locs ++ L) ls (by rw [e1]; exact hh)
    ⟨Nat.le_trans hS.1 (by rw [e1]; exact hz), fun q h1 h2 => by rw [e1, hk q (Nat.lt_of_lt_of_le h1 hS.1) h2]; exact hS.2.1 q h1 h2, fun q hq => by
      rcases List.mem_append.mp hq with h | h
      · exact hS.2.2 q h
      · exact hL q h⟩ hl T' rfl X'
  exact ⟨t2, stp t2 a1, b1⟩
theorem E_vret (C : CE γ κ own cc nL rm) (R : Rt γ none) (hd : decode cc pc = .ok (.return_, 1)) {E' : Nat → va_E} (e : ∀ k, k < n → E k = E' k) : GE γ κ nL (Eq' γ κ n E' zc zs) pc lv [] n E zc zs := fun H locs ls hP hS hl =>
  W.vret (hlocks := R.2) C.1 C.2.1 R.1 (fun t ht hW => ⟨⟨rfl, by rw [ht]; exact hP.congr e⟩, hS.F ht⟩) hS.2.2 hd
theorem E_callIN (C : CE γ κ own cc nL rm) {y : MethodName} {host : String} {bytes : ByteArray} {mL k idx mc ms n' : Nat} {rmc : Room} {rest : List Value} {E' : Nat → va_E} (hM : Et γ.2.1 κ y bytes mL rmc [.ref (κ.1 + k)] n E mc ms n' E') (hY : Yw y bytes mL none 0) (hy : y.name = "<init>") (hi : Cond.instanceMethod y ∈ gw) (hlk : (own, idx, y, host) ∈ nestW) (hrc : rmc.cells = mc ∧ rmc.slots = ms) (hfit : rmc.frames + 1 ≤ rm.frames ∧ 8 + (mL + 11) + rmc.locals ≤ rm.locals) (hroom : zc + mc ≤ rm.cells ∧ zs + ms ≤ rm.slots) (hrm : (rest.map fun v => v.category).sum ≤ 8) (hd : decode cc pc = .ok (.invokespecial idx, 3))
    (kk : GE γ κ nL Q (pc + 3) lv rest n' E' (zc + mc) (zs + ms)) : GE γ κ nL Q pc lv (.ref (κ.1 + k) :: rest) n E zc zs := fun H locs ls hP hS hl =>
  E_run hS hl (va_runIN (As := []) (rest := rest) (n := 0) (Ts := gw) (own := own) ⟨C.1, C.2.1, C.2.2.1, C.2.2.2.1, C.2.2.2.2.1⟩ hM
    ⟨va_cnB 0 C.2.2.2.2.1 (Yw_good hY.1) rfl hrc.1 hrc.2 (C.2.2.2.2.2.1.1.2 _ hlk) (C.2.2.2.2.1 _ hY.2.1) hY.2.2.1 (by rw [C.2.2.2.2.2.2]; exact hfit), hy, C.2.2.2.2.1 _ hi⟩
    ⟨pce_blind, fun U hU hW => ⟨rfl, by rw [hU]; exact hP, C.2.2.2.2.2.1.warm hW⟩⟩ rfl rfl hl.1 rfl (rm_sum hrm) hd (by rw [C.2.2.2.2.2.2]; exact hroom)) kk
theorem E_callI (C : CE γ κ own cc nL rm) {y : MethodName} {bytes : ByteArray} {mL k idx mc ms n' : Nat} {rmc : Room} {rest : List Value} {E' : Nat → va_E} (hM : Et γ.2.1 κ y bytes mL rmc [.ref (κ.1 + k)] n E mc ms n' E') (hY : Yw y bytes mL none 0) (hy : y.name = "<init>") (hi : Cond.instanceMethod y ∈ gw) (hlk : Cond.methodLink own idx y ∈ gw) (hrc : rmc.cells = mc ∧ rmc.slots = ms) (hfit : rmc.frames + 1 ≤ rm.frames ∧ 8 + (mL + 11) + rmc.locals ≤ rm.locals) (hroom : zc + mc ≤ rm.cells ∧ zs + ms ≤ rm.slots) (hrm : (rest.map fun v => v.category).sum ≤ 8) (hd : decode cc pc = .ok (.invokespecial idx, 3))
    (kk : GE γ κ nL Q (pc + 3) lv rest n' E' (zc + mc) (zs + ms)) : GE γ κ nL Q pc lv (.ref (κ.1 + k) :: rest) n E zc zs := fun H locs ls hP hS hl =>
  E_run hS hl (va_runI (As := []) (rest := rest) (n := 0) (Ts := gw) (own := own) ⟨C.1, C.2.1, C.2.2.1, C.2.2.2.1, C.2.2.2.2.1⟩ hM
    ⟨callB_of 0 C.2.2.2.2.1 (Yw_good hY.1) rfl hrc.1 hrc.2 (C.2.2.2.2.1 _ hY.2.1) (C.2.2.2.2.1 _ hlk) hY.2.2.1 (by rw [C.2.2.2.2.2.2]; exact hfit), hy, C.2.2.2.2.1 _ hi⟩
    ⟨pce_blind, fun U hU hW => ⟨rfl, by rw [hU]; exact hP, C.2.2.2.2.2.1.warm hW⟩⟩ rfl rfl hl.1 rfl (rm_sum hrm) hd (by rw [C.2.2.2.2.2.2]; exact hroom)) kk
theorem E_callV1 (C : CE γ κ own cc nL rm) {y : MethodName} {bytes : ByteArray} {mL k ci idx mc ms n' : Nat} {rmc : Room} {a1 : Int32} {fs : List Value} {q : vw_C} {rest : List Value} {E' : Nat → va_E} (hM : Et γ.2.1 κ y bytes mL rmc [.ref (κ.1 + k), .int a1] n E mc ms n' E') (hY : Yw y bytes mL none 1) (hi : Cond.instanceMethod y ∈ gw) (hs : Cond.selects y.cls y y ∈ gw) (hlk : Cond.methodLink own idx y ∈ gw) (hk : k < n) (he : E k = .inr (ci, fs)) (hc : cls8[ci]? = some q) (hq : q.1 = y.cls) (hrc : rmc.cells = mc ∧ rmc.slots = ms) (hfit : rmc.frames + 1 ≤ rm.frames ∧ 8 + (mL + 11) + rmc.locals ≤ rm.locals) (hroom : zc + mc ≤ rm.cells ∧ zs + ms ≤ rm.slots) (hrm : (rest.map fun v => v.category).sum ≤ 8) (hd : decode cc pc = .ok (.invokevirtual idx, 3))
    (kk : GE γ κ nL Q (pc + 3) lv rest n' E' (zc + mc) (zs + ms)) : GE γ κ nL Q pc lv (.int a1 :: .ref (κ.1 + k) :: rest) n E zc zs := fun H locs ls hP hS hl => by
  have hrec := va_recv (q0 := k) C.2.2.2.2.2.1.1.1 hP.1 hc (by rw [wlp_get hk, he])
  rw [hq] at hrec
  exact E_run hS hl (va_runV (As := [.int a1]) (rest := rest) (n := 1) (Ts := gw) (own := own) (C := y.cls) ⟨C.1, C.2.1, C.2.2.1, C.2.2.2.1, C.2.2.2.2.1⟩ hM
    ⟨callB_of 1 C.2.2.2.2.1 (Yw_good hY.1) rfl hrc.1 hrc.2 (C.2.2.2.2.1 _ hY.2.1) (C.2.2.2.2.1 _ hlk) hY.2.2.1 (by rw [C.2.2.2.2.2.2]; exact hfit), C.2.2.2.2.1 _ hi, C.2.2.2.2.1 _ hs⟩
    ⟨pce_blind, hrec, fun U hU hW => ⟨rfl, by rw [hU]; exact hP, C.2.2.2.2.2.1.warm hW⟩⟩ rfl rfl hl.1 rfl (rm_sum hrm) hd (by rw [C.2.2.2.2.2.2]; exact hroom)) kk
end ER
