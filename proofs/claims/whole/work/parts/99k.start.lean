/-! the law from its entry (printed by wip/gen/law.py) -/
theorem wk_11 : Cond.classLink "NetFormsLaw" (7 : Nat) "NetForms" ∈ gw := gw_t 11 (by decide +kernel) (by decide +kernel)
theorem wk_12 : Cond.instantiable "NetForms" (7 : Nat) ∈ gw := gw_t 12 (by decide +kernel) (by decide +kernel)
theorem wk_1 : Cond.initialized "NetForms" ∈ gw := gw_t 1 (by decide +kernel) (by decide +kernel)
theorem wk_13 : Cond.methodLink "NetFormsLaw" (9 : Nat) y_Nf_init ∈ gw := gw_t 13 (by decide +kernel) (by decide +kernel)
theorem wk_14 : Cond.instanceMethod y_Nf_init ∈ gw := gw_t 14 (by decide +kernel) (by decide +kernel)
theorem wk_515 : Cond.classLink "NetFormsLaw" (10 : Nat) "NetFormsModel" ∈ gw := gw_t 515 (by decide +kernel) (by decide +kernel)
theorem wk_516 : Cond.instantiable "NetFormsModel" (26 : Nat) ∈ gw := gw_t 516 (by decide +kernel) (by decide +kernel)
theorem wk_8 : Cond.initialized "NetFormsModel" ∈ gw := gw_t 8 (by decide +kernel) (by decide +kernel)
theorem wk_517 : Cond.methodLink "NetFormsLaw" (12 : Nat) y_Mo_init ∈ gw := gw_t 517 (by decide +kernel) (by decide +kernel)
theorem wk_518 : Cond.instanceMethod y_Mo_init ∈ gw := gw_t 518 (by decide +kernel) (by decide +kernel)
theorem v_Nf_init : Yw y_Nf_init b_Nf_init 2 none 0 := ⟨gw_t 15 rfl rfl, wk_1, by decide +kernel, by decide⟩
set_option maxRecDepth 100000 in
theorem v_Mo_init : Yw y_Mo_init b_Mo_init 1 none 0 := ⟨gw_t 519 rfl rfl, wk_8, by decide +kernel, by decide⟩
theorem df_Nf : ∀ j, j < 7 → defaultValue (ty_Nf j) = vp_V [.null, .null, .null, .null, .null, .null, .null] j := fun j hj => by
  match j, hj with
  | 0, _ => rfl
  | 1, _ => rfl
  | 2, _ => rfl
  | 3, _ => rfl
  | 4, _ => rfl
  | 5, _ => rfl
  | 6, _ => rfl
  | q + 7, h => exact absurd h (by omega)
theorem df_Mo : ∀ j, j < 26 → defaultValue (ty_Mo j) = vp_V [.int 0, .int 0, .int 0, .null, .null, .null, .null, .null, .null, .null, .null, .null, .null, .null, .int 0, .null, .null, .null, .long 0, .null, .null, .null, .null, .null, .long 0, .long 0] j := fun j hj => by
  match j, hj with
  | 0, _ => rfl
  | 1, _ => rfl
  | 2, _ => rfl
  | 3, _ => rfl
  | 4, _ => rfl
  | 5, _ => rfl
  | 6, _ => rfl
  | 7, _ => rfl
  | 8, _ => rfl
  | 9, _ => rfl
  | 10, _ => rfl
  | 11, _ => rfl
  | 12, _ => rfl
  | 13, _ => rfl
  | 14, _ => rfl
  | 15, _ => rfl
  | 16, _ => rfl
  | 17, _ => rfl
  | 18, _ => rfl
  | 19, _ => rfl
  | 20, _ => rfl
  | 21, _ => rfl
  | 22, _ => rfl
  | 23, _ => rfl
  | 24, _ => rfl
  | 25, _ => rfl
  | q + 26, h => exact absurd h (by omega)
/-- the memory and the state at the beginning -/
def Mz : Mem := (fun k => if k = 1 then (fun j => if j = 0 then 1 else 0) else if k = 7 then (fun q => if q < 6 then nI q else 0) else if k = 56 then (fun j => if j = 0 then 1 else 0) else (fun _ => 0), fun _ _ => 0)
def Sz : Sg := (fun i j => if i = 0 then (if j = 0 then 1 else 0) else if i = 6 then j else 0, fun _ _ => 0, fun _ _ => 0)
theorem Sz_wf : WF Sz := by
  refine ⟨⟨by decide, by decide, by decide, by decide⟩, fun k hk => absurd hk (by show ¬ k < 0; omega), fun k l hk => absurd hk (by show ¬ k < 0; omega), fun k hk => absurd hk (by show ¬ k < 0; omega), fun k l hk => absurd hk (by show ¬ k < 0; omega), fun q _ => rfl, fun f _ => ⟨by show (0 : Nat) ≤ 2; omega, fun k _ => ⟨⟨by show (-1000000 : Int) ≤ (0 : Int32).toInt; decide, by show (0 : Int32).toInt ≤ (1000000 : Int); decide⟩, fun _ => rfl⟩⟩, fun q _ => ⟨by show (0 : Nat) ≤ 1; omega, by show (-1000 : Int) ≤ (0 : Int32).toInt; decide, by show (0 : Int32).toInt ≤ (1000 : Int); decide⟩, fun q _ _ => ⟨rfl, rfl⟩, fun k _ _ => rfl⟩
theorem Mz_0 {k : Nat} (h1 : k ≠ 1) (h7 : k ≠ 7) (h56 : k ≠ 56) (j : Nat) : Mz.1 k j = 0 := by
  show (if k = 1 then (fun j => if j = 0 then (1 : Int32) else 0) else if k = 7 then (fun q => if q < 6 then nI q else 0) else if k = 56 then (fun j => if j = 0 then 1 else 0) else (fun _ => 0)) j = 0
  rw [if_neg h1, if_neg h7, if_neg h56]
theorem Sz_rc : RC Sz Mz := by
  refine ⟨⟨rfl, rfl, rfl⟩, fun k hk => absurd hk (by show ¬ k < 0; omega), fun k hk => absurd hk (by show ¬ k < 0; omega), fun q hq => ⟨?_, rfl, rfl, rfl⟩, fun f hf => ⟨Mz_0 (by omega) (by omega) (by omega) 0, fun k _ => Mz_0 (by omega) (by omega) (by omega) k⟩, fun k _ => rfl, rfl⟩
  show (if q < 6 then nI q else 0) = nI q
  rw [if_pos hq]
theorem Sz_rm : RM Sz Mz := ⟨⟨rfl, rfl, rfl⟩, fun k hk => absurd hk (by show ¬ k < 0; omega), fun k hk => absurd hk (by show ¬ k < 0; omega), fun q _ => ⟨rfl, rfl, rfl⟩, fun f _ => ⟨rfl, fun k _ => rfl⟩, fun k _ => rfl, rfl⟩
theorem arr_known {s : State} {args : Array Value} {ty : FieldType} (h : (Cond.arrayClass ty).before args s = true) : ∃ cA : ClassId, ArrOfT s cA ty ∧ s.vm.findClass ("[" ++ ty.toString) = some cA := by
  obtain ⟨cA, kA, comp, hf, hk, hkind⟩ := Cond.arrayClass_spec h
  exact ⟨cA, fun n z => ⟨fun k h => (by cases h), kA, hk, comp, hkind⟩, hf⟩
theorem nest_mem {q : String × Nat × MethodName × String} (h : q ∈ nestW) : Cond.methodLinkNest q.1 q.2.1 q.2.2.1 q.2.2.2 ∈ tables_1 := by
  obtain ⟨w, hw, he⟩ := List.mem_filterMap.mp h
  cases w with
  | methodLinkNest o i y h => cases he; exact hw
  | _ => cases he
/-- the classes that the law needs, as the start has them -/
theorem law_known {s : State} {args : Array Value} (hts : ∀ w ∈ lw_tbl, w.before args s = true) : ∃ κ : Kp, κ.1 = s.heap.size ∧ KX κ s := by
  have hgw : ∀ w ∈ gw, w.before args s = true := fun w hw => hts w (gw_lw w hw)
  have htb : ∀ w ∈ tables_1, w.before args s = true := fun w hw => hts w (List.mem_append_right _ hw)
  obtain ⟨c0, i0, h0⟩ := u_known (C := R_Bal) (T := T_Bal) (N := 5) (n := 5) hgw in_Bal (hgw _ wj_106)
  obtain ⟨c1, i1, h1⟩ := u_known (C := R_Cli) (T := T_Cli) (N := 2) (n := 2) hgw in_Cli (hgw _ wj_132)
  obtain ⟨c2, i2, h2⟩ := u_known (C := R_Frm) (T := T_Frm) (N := 2) (n := 2) hgw in_Frm (hgw _ wj_144)
  obtain ⟨c3, i3, h3⟩ := u_known (C := R_Net) (T := T_Net) (N := 9) (n := 9) hgw in_Net (hgw _ wj_20)
  obtain ⟨c4, i4, h4⟩ := u_known (C := R_Wal) (T := T_Wal) (N := 2) (n := 2) hgw in_Wal (hgw _ wj_70)
  obtain ⟨c5, i5, h5⟩ := u_known (C := R_Wav) (T := T_Wav) (N := 3) (n := 3) hgw in_Wav (hgw _ wj_86)
  obtain ⟨c6, i6, h6⟩ := u_known (C := R_Nf) (T := T_Nf) (N := 7) (n := 7) hgw in_Nf (hgw _ wk_12)
  obtain ⟨c7, i7, h7⟩ := u_known (C := R_Mo) (T := T_Mo) (N := 26) (n := 26) hgw in_Mo (hgw _ wk_516)
  obtain ⟨kI, aI, fI⟩ := arr_known (hgw _ wi_66)
  obtain ⟨kJ, aJ, fJ⟩ := arr_known (hgw _ wi_104)
  obtain ⟨kZ, aZ, fZ⟩ := arr_known (hgw _ wi_84)
  have hF : (Cond.arrayOver (.object "NetForms$Form")).before args s = true := htb _ (List.mem_of_getElem? (i := 68) (by decide +kernel))
  have hT : (Cond.arrayOver (.array .long)).before args s = true := htb _ (List.mem_of_getElem? (i := 112) (by decide +kernel))
  obtain ⟨compF, kF, KF, f1, f2, f3, f4, f5⟩ := Cond.arrayOver_spec hF
  obtain ⟨compT, kT, KT, t1, t2, t3, t4, t5⟩ := arrayOverA_spec hT
  refine ⟨(s.heap.size, (kI, kJ, kZ, kF, kT), (fun k => if k = 0 then c0 else if k = 1 then c1 else if k = 2 then c2 else if k = 3 then c3 else if k = 4 then c4 else if k = 5 then c5 else if k = 6 then c6 else c7, fun k => if k = 0 then i0 else if k = 1 then i1 else if k = 2 then i2 else if k = 3 then i3 else if k = 4 then i4 else if k = 5 then i5 else if k = 6 then i6 else i7)), rfl, ⟨⟨fun k q hq => ?_, fun k q hq => ?_⟩, fun q hq => va_Nw.of rfl (htb _ (nest_mem hq))⟩, va_AO.of hF, hT⟩
  · match k, hq with
    | 0, hq => cases hq; exact h0
    | 1, hq => cases hq; exact h1
    | 2, hq => cases hq; exact h2
    | 3, hq => cases hq; exact h3
    | 4, hq => cases hq; exact h4
    | 5, hq => cases hq; exact h5
    | 6, hq => cases hq; exact h6
    | 7, hq => cases hq; exact h7
    | k + 8, hq => cases hq
  · match k, hq with
    | 0, hq => cases hq; exact ⟨aI, fI⟩
    | 1, hq => cases hq; exact ⟨aJ, fJ⟩
    | 2, hq => cases hq; exact ⟨aZ, fZ⟩
    | 3, hq => cases hq; exact ⟨fun n z => ⟨fun k h => (by cases h), KF, f3, compF, f4⟩, KF, compF, f3, f4, f1, f5⟩
    | 4, hq => cases hq; exact ⟨fun n z => ⟨fun k h => (by cases h), KT, t3, compT, t4⟩, t5⟩
    | k + 5, hq => cases hq
/-- the cells as they are made are the cells of Mz -/
def EZ (κ : Kp) : Nat → va_E := u_Mo κ (va_up (EN κ) 56 (.inr (7, [.int 0, .int 0, .int 0, .null, .null, .null, .null, .null, .null, .null, .null, .null, .null, .null, .int 0, .null, .null, .null, .long 0, .null, .null, .null, .null, .null, .long 0, .long 0]))) 56 57
set_option maxRecDepth 100000 in
theorem hp_start {κ : Kp} {H : Heap} (h : HS κ 76 (EZ κ) H) : Hp κ Mz H := by
  intro k q hq
  obtain ⟨hk, rfl⟩ := wl_get2 hq
  have ha := h.at hk
  by_cases z : k = 8
  · subst z
    have ha : H[κ.1 + 8]? = some (vp_cell (kF κ) (12, .inr (.inr (.inr (.inr (fA κ 12)))))) := ha
    show H[κ.1 + 8]? = some (vp_cell (kF κ) (12, .inr (.inr (.inr (.inr (fun j => some (κ.1 + (32 + 2 * j))))))))
    rw [ha, vp_cell_q, vp_cell_q]
    refine congrArg some (arrV_congr fun j hj => ?_)
    unfold fA
    rw [if_pos hj]
  · have e : EZ κ k = ents κ Mz k := by
      clear ha hq h
      match k, hk, z with
      | 0, _, _ => rfl
      | 1, _, _ => rfl
      | 2, _, _ => rfl
      | 3, _, _ => rfl
      | 4, _, _ => rfl
      | 5, _, _ => rfl
      | 6, _, _ => rfl
      | 7, _, _ => rfl
      | 8, _, z => exact absurd rfl z
      | 9, _, _ => rfl
      | 10, _, _ => rfl
      | 11, _, _ => rfl
      | 12, _, _ => rfl
      | 13, _, _ => rfl
      | 14, _, _ => rfl
      | 15, _, _ => rfl
      | 16, _, _ => rfl
      | 17, _, _ => rfl
      | 18, _, _ => rfl
      | 19, _, _ => rfl
      | 20, _, _ => rfl
      | 21, _, _ => rfl
      | 22, _, _ => rfl
      | 23, _, _ => rfl
      | 24, _, _ => rfl
      | 25, _, _ => rfl
      | 26, _, _ => rfl
      | 27, _, _ => rfl
      | 28, _, _ => rfl
      | 29, _, _ => rfl
      | 30, _, _ => rfl
      | 31, _, _ => rfl
      | 32, _, _ => rfl
      | 33, _, _ => rfl
      | 34, _, _ => rfl
      | 35, _, _ => rfl
      | 36, _, _ => rfl
      | 37, _, _ => rfl
      | 38, _, _ => rfl
      | 39, _, _ => rfl
      | 40, _, _ => rfl
      | 41, _, _ => rfl
      | 42, _, _ => rfl
      | 43, _, _ => rfl
      | 44, _, _ => rfl
      | 45, _, _ => rfl
      | 46, _, _ => rfl
      | 47, _, _ => rfl
      | 48, _, _ => rfl
      | 49, _, _ => rfl
      | 50, _, _ => rfl
      | 51, _, _ => rfl
      | 52, _, _ => rfl
      | 53, _, _ => rfl
      | 54, _, _ => rfl
      | 55, _, _ => rfl
      | 56, _, _ => rfl
      | 57, _, _ => rfl
      | 58, _, _ => rfl
      | 59, _, _ => rfl
      | 60, _, _ => rfl
      | 61, _, _ => rfl
      | 62, _, _ => rfl
      | 63, _, _ => rfl
      | 64, _, _ => rfl
      | 65, _, _ => rfl
      | 66, _, _ => rfl
      | 67, _, _ => rfl
      | 68, _, _ => rfl
      | 69, _, _ => rfl
      | 70, _, _ => rfl
      | 71, _, _ => rfl
      | 72, _, _ => rfl
      | 73, _, _ => rfl
      | 74, _, _ => rfl
      | 75, _, _ => rfl
      | q + 76, h, _ => exact absurd h (by omega)
    rw [← e]; exact ha

