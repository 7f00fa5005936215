/-! new long[10][10] -/
theorem arrV_congr {c : ClassId} {N : Nat} {f g : Nat → Value} (h : ∀ j, j < N → f j = g j) : arrV c N f = arrV c N g := by
  unfold arrV
  congr 2
  funext j
  exact h j.val j.isLt
theorem mo_outer (c : ClassId) (N h0 : Nat) : ∀ i : Nat, Jvm.Free.Multi.outerC c N h0 i = arrV c N (fun j => va_rf (if j < i then some (h0 + 1 + j) else none))
  | 0 => by
    show ({ cls := c, slots := Array.replicate N .null, vm := .none } : Cell) = _
    rw [arrV_new]
    refine congrArg (arrV c N) (funext fun j => ?_)
    simp [va_rf]
  | i + 1 => by
    show (Jvm.Free.Multi.outerC c N h0 i).setSlot i (.ref (h0 + 1 + i)) = _
    rw [mo_outer c N h0 i, arrV_store]
    refine congrArg (arrV c N) (funext fun j => ?_)
    by_cases e : j = i
    · subst e
      simp [updV, va_rf]
    · by_cases h : j < i
      · simp [updV, e, h, Nat.lt_succ_of_lt h]
      · simp [updV, e, h, show ¬ j < i + 1 by omega]
def upM (κ : Kp) (E : Nat → va_E) (n : Nat) : Nat → va_E := fun k => if k = n then .inl (kT κ, 10, .inr (.inr (.inr (.inr (fun j => some (κ.1 + (n + 1 + j))))))) else if n < k then eJ κ 10 (fun _ => 0) else E k
section MNA
variable {γ : Gm} {κ : Kp} {own : String} {cc : ByteArray} {nL : Nat} {rm : Room} {Q : State → Prop} {pc : Nat} {lv : List (Nat × Value)} {st : List Value} {n zc zs : Nat} {E : Nat → va_E}
theorem E_mna (C : CE γ κ own cc nL rm) {idx : Nat} (hlk : Cond.classLink own idx "[[J" ∈ gw) (harr : Cond.arrayClass .long ∈ gw) (hcells : zc + 11 ≤ rm.cells) (hslots : zs + 110 ≤ rm.slots) (hd : decode cc pc = .ok (.multianewarray idx 2, 4))
    (k : GE γ κ nL Q (pc + 4) lv (.ref (κ.1 + n) :: st) (n + 11) (upM κ E n) (zc + 1 + 10) (zs + 10 + 100)) : GE γ κ nL Q pc lv (.int 10 :: .int 10 :: st) n E zc zs := fun H locs ls hP hS hl => by
  intro T hT Xs
  have hcl : (Cond.classLink own idx ("[" ++ (FieldType.array .long).toString)).before γ.2.2.2.2.2.2.1 γ.2.2.2.2.1 = true := C.2.2.2.2.1 _ hlk
  obtain ⟨vm₁, cA, comp, -, fA, fC, -, -, X', step⟩ := Xs.multianewarray2F (ty := .long) C.1 C.2.2.2.1 hcl C.2.2.2.2.2.1.2.2 (C.2.2.2.2.1 _ harr) (g := F0 γ.2.2.2.2.2.1 pc ls (.int 10 :: .int 10 :: st)) rfl (by rw [C.2.1]; exact hd) rfl (by decide) (by decide) (by decide) (by decide) (by decide) (by decide) (by decide) (by rw [C.2.2.2.2.2.2]; exact hcells) (by rw [C.2.2.2.2.2.2]; exact hslots)
  have eA : cA = kT κ := Option.some.inj (fA.symm.trans (C.2.2.2.2.2.1.1.1.2 4 _ rfl).2)
  have eC : comp = kJ κ := Option.some.inj (fC.symm.trans (C.2.2.2.2.2.1.1.1.2 1 _ rfl).2)
  subst eA
  subst eC
  have e10 : (10 : Int32).toNatClampNeg = 10 := by decide
  rw [e10] at X' step
  generalize hF : Jvm.Free.Multi.fill (T.setVm vm₁) (kT κ) (kJ κ) 10 10 (defaultValue .long) 10 = F at X' step
  have hTh : (T.setVm vm₁).heap = H := hT
  obtain ⟨f1, f2, -, -⟩ := Jvm.Free.Multi.fill_facts (T.setVm vm₁) (kT κ) (kJ κ) 10 10 (defaultValue .long) 10
  rw [hF, hTh] at f1 f2
  have hz := hP.2
  have hold : ∀ x : Nat, x < H.size → F.heap[x]? = H[x]? := fun x hx => by
    have := Jvm.Free.Multi.fill_old (T.setVm vm₁) (kT κ) (kJ κ) 10 10 (defaultValue .long) (a := x) (by rw [hTh]; exact hx) 10
    rw [hF, hTh] at this
    exact this
  have hrow : ∀ j : Nat, j < 10 → F.heap[H.size + 1 + j]? = some (arrV (kJ κ) 10 (fun _ => .long 0)) := fun j hj => by
    have := Jvm.Free.Multi.fill_inner (T.setVm vm₁) (kT κ) (kJ κ) 10 10 (defaultValue .long) 10 j hj
    rw [hF, hTh] at this
    rw [← arrV_new]
    exact this
  rw [mo_outer] at f2
  have hHS : HS κ (n + 11) (upM κ E n) F.heap := HS.of (fun k hk => by
    unfold upM
    by_cases z : k = n
    · rw [if_pos z, z]
      show F.heap[_]? = some (vp_cell _ _)
      rw [vp_cell_q, ← hz, f2]
      refine congrArg some (arrV_congr fun j hj => ?_)
      rw [if_pos hj]
      show va_rf (some (H.size + 1 + j)) = va_rf (some (κ.1 + (n + 1 + j)))
      rw [show H.size + 1 + j = κ.1 + (n + 1 + j) by omega]
    · rw [if_neg z]
      by_cases y : n < k
      · rw [if_pos y]
        show F.heap[_]? = some (vp_cell _ _)
        rw [vp_cell_l, show κ.1 + k = H.size + 1 + (k - n - 1) by omega]
        exact hrow _ (by omega)
      · rw [if_neg y]
        exact (hP.at (by omega)).kept (hold _ (by show κ.1 + k < H.size; omega))) (by rw [f1]; omega)
  obtain ⟨t, a1, b1⟩ := k F.heap locs ls hHS ⟨by have := hS.1; omega, fun x h1 h2 => (hold x (by have := hS.1; omega)).trans (hS.2.1 x h1 h2), hS.2.2⟩ hl F rfl X'
  refine ⟨t, step t ?_, b1⟩
  rw [show T.heap.size = κ.1 + n by rw [hT]; exact hz]
  exact a1
end MNA
