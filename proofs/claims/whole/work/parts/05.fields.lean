/-! more rows: fields, words, answers (printed by program) -/
theorem vp_lt {i : Int32} {n : Nat} (h : vp_in i n) : i.toNatClampNeg < n := Nat.not_le.mp fun q => h (Or.inr q)
theorem w_max : Cond.static Lib.Math.max.name ∈ gw ∧ Cond.code Lib.Math.max.name Lib.Math.max.code 2 (some .int) ∈ gw := ⟨gw_t 231 (by decide +kernel) (by decide +kernel), gw_t 232 (by decide +kernel) (by decide +kernel)⟩
theorem w_min : Cond.static Lib.Math.min.name ∈ gw ∧ Cond.code Lib.Math.min.name Lib.Math.min.code 2 (some .int) ∈ gw := ⟨gw_t 228 (by decide +kernel) (by decide +kernel), gw_t 229 (by decide +kernel) (by decide +kernel)⟩
theorem w_abs : Cond.static Lib.MathLoose.abs_long.x ∈ gw ∧ Cond.code Lib.MathLoose.abs_long.x Lib.MathLoose.abs_long.code 2 (some .long) ∈ gw := ⟨gw_t 416 (by decide +kernel) (by decide +kernel), gw_t 417 (by decide +kernel) (by decide +kernel)⟩
theorem w_math : Cond.initialized "java/lang/Math" ∈ gw := gw_t 10 (by decide +kernel) (by decide +kernel)
section GR2
variable {γ : Gm} {κ : Kp} {own : String} {cc : ByteArray} {nL d : Nat} {z : Nat × Nat} {Q : State → Prop} {pc : Nat} {lv : List (Nat × Value)} {st rest : List Value} {M : Mem}
theorem ki_ {p : Int32 → Mem → Prop} (kk : ∀ r M', p r M' → G γ κ nL z Q pc lv (.int r :: rest) M') : ∀ v M', pI p v M' → G γ κ nL z Q pc lv (v.toList ++ rest) M' := by
  rintro v M' ⟨r, rfl, h⟩
  exact kk r M' h
theorem kj_ {p : Int64 → Mem → Prop} (kk : ∀ r M', p r M' → G γ κ nL z Q pc lv (.long r :: rest) M') : ∀ v M', pJ p v M' → G γ κ nL z Q pc lv (v.toList ++ rest) M' := by
  rintro v M' ⟨r, rfl, h⟩
  exact kk r M' h
theorem kv_ {p : Mem → Prop} (kk : ∀ M', p M' → G γ κ nL z Q pc lv rest M') : ∀ v M', pV p v M' → G γ κ nL z Q pc lv (v.toList ++ rest) M' := by
  rintro v M' ⟨rfl, h⟩
  exact kk M' h
theorem kf_ {p : Option Nat → Mem → Prop} (kk : ∀ r M', p r M' → G γ κ nL z Q pc lv (fv κ r :: rest) M') : ∀ v M', pF κ p v M' → G γ κ nL z Q pc lv (v.toList ++ rest) M' := by
  rintro v M' ⟨r, rfl, h⟩
  exact kk r M' h
theorem G_astoreq2 (C : Cx γ κ own cc nL d z) {i j : Nat} {r r0 : Option Nat} {lv0 lv' : List (Nat × Value)} (hd : decode cc pc = .ok (.astore i, 2)) (hn : i < nL) (hv : (i, fv κ r) :: (j, fv κ r0) :: lv0.filter (fun q => !(q.1 == i) && !(q.1 + 1 == i && q.2.category == 2)) = lv') (k : G γ κ nL z Q (pc + 2) lv' st M) (hj : (j == i) = false := by rfl) : G γ κ nL z Q pc ((j, fv κ r0) :: lv0) (fv κ r :: st) M := G_astoreq C hd hn (by
  have h1 : (fv κ r0).category = 1 := by cases r0 <;> rfl
  rw [← hv, List.filter_cons]
  simp [hj, h1]) k
theorem G_ifnullR (C : Cx γ κ own cc nL d z) {x : Nat} {off : Int} (hd : decode cc pc = .ok (.ifnull off, 3)) (k : G γ κ nL z Q (pc + 3) lv st M) : G γ κ nL z Q pc lv (.ref x :: st) M := fun H locs ls hP hS hl => lv_ifnull C.1 C.2.1 hd (k H locs ls hP hS hl)
theorem G_ifnonnullR (C : Cx γ κ own cc nL d z) {x : Nat} {off : Int} {tgt : Nat} (hd : decode cc pc = .ok (.ifnonnull off, 3)) (ht : (pc : Int) + off = (tgt : Int)) (k : G γ κ nL z Q tgt lv st M) : G γ κ nL z Q pc lv (.ref x :: st) M := fun H locs ls hP hS hl => lv_ifnonnull C.1 C.2.1 hd ht (k H locs ls hP hS hl)
theorem G_switch (C : Cx γ κ own cc nL d z) {x : Int32} {dflt h2 : Int} {offs : Array Int} {len hi dt : Nat} {tg : Nat → Nat} (hd : decode cc pc = .ok (.tableswitch dflt 0 h2 offs, len)) (h1 : h2 = (hi : Int) ∧ hi < 2 ^ 31 ∧ (pc : Int) + dflt = (dt : Int)) (ht : (List.range (hi + 1)).all (fun i => offs[i]? == some ((tg i : Int) - (pc : Int))) = true)
    (kin : ∀ i : Nat, i < hi + 1 → x = nI i → G γ κ nL z Q (tg i) lv st M) (kout : (x.toInt < 0 ∨ (hi : Int) < x.toInt) → G γ κ nL z Q dt lv st M) : G γ κ nL z Q pc lv (.int x :: st) M := fun H locs ls hP hS hl => by
  obtain ⟨rfl, h31, hdt⟩ := h1
  by_cases h : x.toInt < 0 ∨ (hi : Int) < x.toInt
  · exact lv_tableOut C.1 C.2.1 hd h hdt (kout h H locs ls hP hS hl)
  · have ha : ¬ x.toInt < 0 := fun q => h (Or.inl q)
    have hb : ¬ (hi : Int) < x.toInt := fun q => h (Or.inr q)
    obtain ⟨j, hj⟩ : ∃ j : Nat, x.toInt = (j : Int) := ⟨x.toInt.toNat, by omega⟩
    have hjh : j < hi + 1 := by omega
    have e1 : x = nI j := Int32.toInt_inj.mp (by rw [hj, nI_toInt (by omega)])
    have e2 := List.all_eq_true.mp ht j (List.mem_range.mpr hjh)
    have e3 : offs[(x.toInt - 0).toNat]? = some ((tg j : Int) - (pc : Int)) := by
      have : (x.toInt - 0).toNat = j := by omega
      rw [this]; exact eq_of_beq e2
    exact lv_tableIn C.1 C.2.1 hd ha hb e3 (by omega) (kin j hjh e1 H locs ls hP hS hl)
theorem G_max (C : Cx γ κ own cc nL d z) {idx : Nat} {x y : Int32} (hw : Cond.methodLink own idx y_Mat_max ∈ gw) (h1 : 1 ≤ d) (hrm : (st.map fun v => v.category).sum ≤ 8) (hd : decode cc pc = .ok (.invokestatic idx, 3)) (k : G γ κ nL z Q (pc + 3) lv (.int (if x < y then y else x) :: st) M) : G γ κ nL z Q pc lv (.int y :: .int x :: st) M := fun H locs ls hP hS hl => va_mmax C.1 C.2.1 (C.2.2.1.trans hl.1.symm) C.2.2.2.1 (C.2.2.2.2.1 _ hw) (C.2.2.2.2.1 _ w_max.1) (C.2.2.2.2.1 _ w_math) (C.2.2.2.2.1 _ w_max.2) (Nat.le_trans h1 C.2.2.2.2.2.2.1.1) (Nat.le_trans (by omega) C.2.2.2.2.2.2.1.2) C.2.2.2.2.2.2.2.1 C.2.2.2.2.2.2.2.2 hd (k H locs ls hP hS hl)
theorem G_min (C : Cx γ κ own cc nL d z) {idx : Nat} {x y : Int32} (hw : Cond.methodLink own idx y_Mat_min ∈ gw) (h1 : 1 ≤ d) (hrm : (st.map fun v => v.category).sum ≤ 8) (hd : decode cc pc = .ok (.invokestatic idx, 3)) (k : G γ κ nL z Q (pc + 3) lv (.int (if y < x then y else x) :: st) M) : G γ κ nL z Q pc lv (.int y :: .int x :: st) M := fun H locs ls hP hS hl => va_mmin C.1 C.2.1 (C.2.2.1.trans hl.1.symm) C.2.2.2.1 (C.2.2.2.2.1 _ hw) (C.2.2.2.2.1 _ w_min.1) (C.2.2.2.2.1 _ w_math) (C.2.2.2.2.1 _ w_min.2) (Nat.le_trans h1 C.2.2.2.2.2.2.1.1) (Nat.le_trans (by omega) C.2.2.2.2.2.2.1.2) C.2.2.2.2.2.2.2.1 C.2.2.2.2.2.2.2.2 hd (k H locs ls hP hS hl)
theorem G_abs (C : Cx γ κ own cc nL d z) {idx : Nat} {x : Int64} (hw : Cond.methodLink own idx y_Mat_abs ∈ gw) (h1 : 1 ≤ d) (hrm : (st.map fun v => v.category).sum ≤ 8) (hd : decode cc pc = .ok (.invokestatic idx, 3)) (k : G γ κ nL z Q (pc + 3) lv (.long (if 0 < x then x else -x) :: st) M) : G γ κ nL z Q pc lv (.long x :: st) M := fun H locs ls hP hS hl => va_mabs_long C.1 C.2.1 (C.2.2.1.trans hl.1.symm) C.2.2.2.1 (C.2.2.2.2.1 _ hw) (C.2.2.2.2.1 _ w_abs.1) (C.2.2.2.2.1 _ w_math) (C.2.2.2.2.1 _ w_abs.2) (Nat.le_trans h1 C.2.2.2.2.2.2.1.1) (Nat.le_trans (by omega) C.2.2.2.2.2.2.1.2) C.2.2.2.2.2.2.2.1 C.2.2.2.2.2.2.2.2 hd (k H locs ls hP hS hl)
theorem Gg_Bal_size (C : Cx γ κ own cc nL d z) {idx : Nat} (hw : Cond.fieldLink own idx "NetForms$Balance" "size" "I" ∈ gw) (hd : decode cc pc = .ok (.getfield idx, 3)) (k : G γ κ nL z Q (pc + 3) lv (.int (M.1 15 0) :: st) M) : G γ κ nL z Q pc lv (.ref (κ.1 + 15) :: st) M := G_get C (ci := 0) (k := 15) (j := 0) (CN := R_Bal) (T := T_Bal) (N := 5) (by decide) rfl rfl (by decide) in_Bal hw rfl rfl hd k
theorem Gp_Bal_size (C : Cx γ κ own cc nL d z) {idx : Nat} {v : Int32} (hw : Cond.fieldLink own idx "NetForms$Balance" "size" "I" ∈ gw) (hd : decode cc pc = .ok (.putfield idx, 3)) (k : G γ κ nL z Q (pc + 3) lv st (wI M 15 0 v)) : G γ κ nL z Q pc lv (.int v :: .ref (κ.1 + 15) :: st) M := G_putI C (ci := 0) (k := 15) (j := 0) (CN := R_Bal) (T := T_Bal) (N := 5) (by decide) rfl rfl rfl (by decide) in_Bal ty_Bal tk_Bal nm_Bal hw rfl rfl (by decide +kernel) (Nat.le_of_ble_eq_true rfl) hd k
theorem Gg_Bal_table (C : Cx γ κ own cc nL d z) {idx : Nat} (hw : Cond.fieldLink own idx "NetForms$Balance" "table" "[[J" ∈ gw) (hd : decode cc pc = .ok (.getfield idx, 3)) (k : G γ κ nL z Q (pc + 3) lv (.ref (κ.1 + 16) :: st) M) : G γ κ nL z Q pc lv (.ref (κ.1 + 15) :: st) M := G_get C (ci := 0) (k := 15) (j := 1) (CN := R_Bal) (T := T_Bal) (N := 5) (by decide) rfl rfl (by decide) in_Bal hw rfl rfl hd k
theorem Gg_Bal_dues (C : Cx γ κ own cc nL d z) {idx : Nat} (hw : Cond.fieldLink own idx "NetForms$Balance" "dues" "[J" ∈ gw) (hd : decode cc pc = .ok (.getfield idx, 3)) (k : G γ κ nL z Q (pc + 3) lv (.ref (κ.1 + 27) :: st) M) : G γ κ nL z Q pc lv (.ref (κ.1 + 15) :: st) M := G_get C (ci := 0) (k := 15) (j := 2) (CN := R_Bal) (T := T_Bal) (N := 5) (by decide) rfl rfl (by decide) in_Bal hw rfl rfl hd k
theorem Gg_Bal_rank (C : Cx γ κ own cc nL d z) {idx : Nat} (hw : Cond.fieldLink own idx "NetForms$Balance" "rank" "I" ∈ gw) (hd : decode cc pc = .ok (.getfield idx, 3)) (k : G γ κ nL z Q (pc + 3) lv (.int (M.1 15 3) :: st) M) : G γ κ nL z Q pc lv (.ref (κ.1 + 15) :: st) M := G_get C (ci := 0) (k := 15) (j := 3) (CN := R_Bal) (T := T_Bal) (N := 5) (by decide) rfl rfl (by decide) in_Bal hw rfl rfl hd k
theorem Gp_Bal_rank (C : Cx γ κ own cc nL d z) {idx : Nat} {v : Int32} (hw : Cond.fieldLink own idx "NetForms$Balance" "rank" "I" ∈ gw) (hd : decode cc pc = .ok (.putfield idx, 3)) (k : G γ κ nL z Q (pc + 3) lv st (wI M 15 3 v)) : G γ κ nL z Q pc lv (.int v :: .ref (κ.1 + 15) :: st) M := G_putI C (ci := 0) (k := 15) (j := 3) (CN := R_Bal) (T := T_Bal) (N := 5) (by decide) rfl rfl rfl (by decide) in_Bal ty_Bal tk_Bal nm_Bal hw rfl rfl (by decide +kernel) (Nat.le_of_ble_eq_true rfl) hd k
theorem Gg_Bal_below (C : Cx γ κ own cc nL d z) {idx : Nat} (hw : Cond.fieldLink own idx "NetForms$Balance" "below" "J" ∈ gw) (hd : decode cc pc = .ok (.getfield idx, 3)) (k : G γ κ nL z Q (pc + 3) lv (.long (M.2 15 4) :: st) M) : G γ κ nL z Q pc lv (.ref (κ.1 + 15) :: st) M := G_get C (ci := 0) (k := 15) (j := 4) (CN := R_Bal) (T := T_Bal) (N := 5) (by decide) rfl rfl (by decide) in_Bal hw rfl rfl hd k
theorem Gp_Bal_below (C : Cx γ κ own cc nL d z) {idx : Nat} {v : Int64} (hw : Cond.fieldLink own idx "NetForms$Balance" "below" "J" ∈ gw) (hd : decode cc pc = .ok (.putfield idx, 3)) (k : G γ κ nL z Q (pc + 3) lv st (wJ M 15 4 v)) : G γ κ nL z Q pc lv (.long v :: .ref (κ.1 + 15) :: st) M := G_putJ C (ci := 0) (k := 15) (j := 4) (CN := R_Bal) (T := T_Bal) (N := 5) (by decide) rfl rfl rfl (by decide) in_Bal ty_Bal tk_Bal nm_Bal hw rfl rfl (by decide +kernel) (Nat.le_of_ble_eq_true rfl) hd k
theorem Gg_Cli_climbed (C : Cx γ κ own cc nL d z) {idx : Nat} (hw : Cond.fieldLink own idx "NetForms$Climb" "climbed" "[J" ∈ gw) (hd : decode cc pc = .ok (.getfield idx, 3)) (k : G γ κ nL z Q (pc + 3) lv (.ref (κ.1 + 29) :: st) M) : G γ κ nL z Q pc lv (.ref (κ.1 + 28) :: st) M := G_get C (ci := 1) (k := 28) (j := 0) (CN := R_Cli) (T := T_Cli) (N := 2) (by decide) rfl rfl (by decide) in_Cli hw rfl rfl hd k
theorem Gg_Cli_leasts (C : Cx γ κ own cc nL d z) {idx : Nat} (hw : Cond.fieldLink own idx "NetForms$Climb" "leasts" "[I" ∈ gw) (hd : decode cc pc = .ok (.getfield idx, 3)) (k : G γ κ nL z Q (pc + 3) lv (.ref (κ.1 + 30) :: st) M) : G γ κ nL z Q pc lv (.ref (κ.1 + 28) :: st) M := G_get C (ci := 1) (k := 28) (j := 1) (CN := R_Cli) (T := T_Cli) (N := 2) (by decide) rfl rfl (by decide) in_Cli hw rfl rfl hd k
theorem Gg_Frm_degree (C : Cx γ κ own cc nL d z) {f idx : Nat} (hf : f < 12) (hw : Cond.fieldLink own idx "NetForms$Form" "degree" "I" ∈ gw) (hd : decode cc pc = .ok (.getfield idx, 3)) (k : G γ κ nL z Q (pc + 3) lv (.int (M.1 (32 + 2 * f) 0) :: st) M) : G γ κ nL z Q pc lv (.ref (κ.1 + (32 + 2 * f)) :: st) M := G_get C (ci := 2) (k := 32 + 2 * f) (j := 0) (CN := R_Frm) (T := T_Frm) (N := 2) (by omega) (sh_formO κ hf _ _) rfl (by decide) in_Frm hw rfl rfl hd k
theorem Gp_Frm_degree (C : Cx γ κ own cc nL d z) {f idx : Nat} {v : Int32} (hf : f < 12) (hw : Cond.fieldLink own idx "NetForms$Form" "degree" "I" ∈ gw) (hd : decode cc pc = .ok (.putfield idx, 3)) (k : G γ κ nL z Q (pc + 3) lv st (wI M (32 + 2 * f) 0 v)) : G γ κ nL z Q pc lv (.int v :: .ref (κ.1 + (32 + 2 * f)) :: st) M := G_putI C (ci := 2) (k := 32 + 2 * f) (j := 0) (CN := R_Frm) (T := T_Frm) (N := 2) (by omega) (sh_formO κ hf _ _) (sh_formO κ hf _ _) rfl (by decide) in_Frm ty_Frm tk_Frm nm_Frm hw rfl rfl (by decide +kernel) (Nat.le_of_ble_eq_true rfl) hd k
theorem Gg_Frm_numbers (C : Cx γ κ own cc nL d z) {f idx : Nat} (hf : f < 12) (hw : Cond.fieldLink own idx "NetForms$Form" "numbers" "[I" ∈ gw) (hd : decode cc pc = .ok (.getfield idx, 3)) (k : G γ κ nL z Q (pc + 3) lv (.ref (κ.1 + (33 + 2 * f)) :: st) M) : G γ κ nL z Q pc lv (.ref (κ.1 + (32 + 2 * f)) :: st) M := G_get C (ci := 2) (k := 32 + 2 * f) (j := 1) (CN := R_Frm) (T := T_Frm) (N := 2) (by omega) (sh_formO κ hf _ _) rfl (by decide) in_Frm hw rfl rfl hd k
theorem Gg_Net_points (C : Cx γ κ own cc nL d z) {idx : Nat} (hw : Cond.fieldLink own idx "NetForms$Net" "points" "I" ∈ gw) (hd : decode cc pc = .ok (.getfield idx, 3)) (k : G γ κ nL z Q (pc + 3) lv (.int (M.1 1 0) :: st) M) : G γ κ nL z Q pc lv (.ref (κ.1 + 1) :: st) M := G_get C (ci := 3) (k := 1) (j := 0) (CN := R_Net) (T := T_Net) (N := 9) (by decide) rfl rfl (by decide) in_Net hw rfl rfl hd k
theorem Gp_Net_points (C : Cx γ κ own cc nL d z) {idx : Nat} {v : Int32} (hw : Cond.fieldLink own idx "NetForms$Net" "points" "I" ∈ gw) (hd : decode cc pc = .ok (.putfield idx, 3)) (k : G γ κ nL z Q (pc + 3) lv st (wI M 1 0 v)) : G γ κ nL z Q pc lv (.int v :: .ref (κ.1 + 1) :: st) M := G_putI C (ci := 3) (k := 1) (j := 0) (CN := R_Net) (T := T_Net) (N := 9) (by decide) rfl rfl rfl (by decide) in_Net ty_Net tk_Net nm_Net hw rfl rfl (by decide +kernel) (Nat.le_of_ble_eq_true rfl) hd k
theorem Gg_Net_edges (C : Cx γ κ own cc nL d z) {idx : Nat} (hw : Cond.fieldLink own idx "NetForms$Net" "edges" "I" ∈ gw) (hd : decode cc pc = .ok (.getfield idx, 3)) (k : G γ κ nL z Q (pc + 3) lv (.int (M.1 1 1) :: st) M) : G γ κ nL z Q pc lv (.ref (κ.1 + 1) :: st) M := G_get C (ci := 3) (k := 1) (j := 1) (CN := R_Net) (T := T_Net) (N := 9) (by decide) rfl rfl (by decide) in_Net hw rfl rfl hd k
theorem Gp_Net_edges (C : Cx γ κ own cc nL d z) {idx : Nat} {v : Int32} (hw : Cond.fieldLink own idx "NetForms$Net" "edges" "I" ∈ gw) (hd : decode cc pc = .ok (.putfield idx, 3)) (k : G γ κ nL z Q (pc + 3) lv st (wI M 1 1 v)) : G γ κ nL z Q pc lv (.int v :: .ref (κ.1 + 1) :: st) M := G_putI C (ci := 3) (k := 1) (j := 1) (CN := R_Net) (T := T_Net) (N := 9) (by decide) rfl rfl rfl (by decide) in_Net ty_Net tk_Net nm_Net hw rfl rfl (by decide +kernel) (Nat.le_of_ble_eq_true rfl) hd k
theorem Gg_Net_plates (C : Cx γ κ own cc nL d z) {idx : Nat} (hw : Cond.fieldLink own idx "NetForms$Net" "plates" "I" ∈ gw) (hd : decode cc pc = .ok (.getfield idx, 3)) (k : G γ κ nL z Q (pc + 3) lv (.int (M.1 1 2) :: st) M) : G γ κ nL z Q pc lv (.ref (κ.1 + 1) :: st) M := G_get C (ci := 3) (k := 1) (j := 2) (CN := R_Net) (T := T_Net) (N := 9) (by decide) rfl rfl (by decide) in_Net hw rfl rfl hd k
theorem Gp_Net_plates (C : Cx γ κ own cc nL d z) {idx : Nat} {v : Int32} (hw : Cond.fieldLink own idx "NetForms$Net" "plates" "I" ∈ gw) (hd : decode cc pc = .ok (.putfield idx, 3)) (k : G γ κ nL z Q (pc + 3) lv st (wI M 1 2 v)) : G γ κ nL z Q pc lv (.int v :: .ref (κ.1 + 1) :: st) M := G_putI C (ci := 3) (k := 1) (j := 2) (CN := R_Net) (T := T_Net) (N := 9) (by decide) rfl rfl rfl (by decide) in_Net ty_Net tk_Net nm_Net hw rfl rfl (by decide +kernel) (Nat.le_of_ble_eq_true rfl) hd k
theorem Gg_Net_begins (C : Cx γ κ own cc nL d z) {idx : Nat} (hw : Cond.fieldLink own idx "NetForms$Net" "begins" "[I" ∈ gw) (hd : decode cc pc = .ok (.getfield idx, 3)) (k : G γ κ nL z Q (pc + 3) lv (.ref (κ.1 + 2) :: st) M) : G γ κ nL z Q pc lv (.ref (κ.1 + 1) :: st) M := G_get C (ci := 3) (k := 1) (j := 3) (CN := R_Net) (T := T_Net) (N := 9) (by decide) rfl rfl (by decide) in_Net hw rfl rfl hd k
theorem Gg_Net_ends (C : Cx γ κ own cc nL d z) {idx : Nat} (hw : Cond.fieldLink own idx "NetForms$Net" "ends" "[I" ∈ gw) (hd : decode cc pc = .ok (.getfield idx, 3)) (k : G γ κ nL z Q (pc + 3) lv (.ref (κ.1 + 3) :: st) M) : G γ κ nL z Q pc lv (.ref (κ.1 + 1) :: st) M := G_get C (ci := 3) (k := 1) (j := 4) (CN := R_Net) (T := T_Net) (N := 9) (by decide) rfl rfl (by decide) in_Net hw rfl rfl hd k
theorem Gg_Net_firsts (C : Cx γ κ own cc nL d z) {idx : Nat} (hw : Cond.fieldLink own idx "NetForms$Net" "firsts" "[I" ∈ gw) (hd : decode cc pc = .ok (.getfield idx, 3)) (k : G γ κ nL z Q (pc + 3) lv (.ref (κ.1 + 4) :: st) M) : G γ κ nL z Q pc lv (.ref (κ.1 + 1) :: st) M := G_get C (ci := 3) (k := 1) (j := 5) (CN := R_Net) (T := T_Net) (N := 9) (by decide) rfl rfl (by decide) in_Net hw rfl rfl hd k
theorem Gg_Net_seconds (C : Cx γ κ own cc nL d z) {idx : Nat} (hw : Cond.fieldLink own idx "NetForms$Net" "seconds" "[I" ∈ gw) (hd : decode cc pc = .ok (.getfield idx, 3)) (k : G γ κ nL z Q (pc + 3) lv (.ref (κ.1 + 5) :: st) M) : G γ κ nL z Q pc lv (.ref (κ.1 + 1) :: st) M := G_get C (ci := 3) (k := 1) (j := 6) (CN := R_Net) (T := T_Net) (N := 9) (by decide) rfl rfl (by decide) in_Net hw rfl rfl hd k
theorem Gg_Net_acrosses (C : Cx γ κ own cc nL d z) {idx : Nat} (hw : Cond.fieldLink own idx "NetForms$Net" "acrosses" "[I" ∈ gw) (hd : decode cc pc = .ok (.getfield idx, 3)) (k : G γ κ nL z Q (pc + 3) lv (.ref (κ.1 + 6) :: st) M) : G γ κ nL z Q pc lv (.ref (κ.1 + 1) :: st) M := G_get C (ci := 3) (k := 1) (j := 7) (CN := R_Net) (T := T_Net) (N := 9) (by decide) rfl rfl (by decide) in_Net hw rfl rfl hd k
theorem Gg_Net_leasts (C : Cx γ κ own cc nL d z) {idx : Nat} (hw : Cond.fieldLink own idx "NetForms$Net" "leasts" "[I" ∈ gw) (hd : decode cc pc = .ok (.getfield idx, 3)) (k : G γ κ nL z Q (pc + 3) lv (.ref (κ.1 + 7) :: st) M) : G γ κ nL z Q pc lv (.ref (κ.1 + 1) :: st) M := G_get C (ci := 3) (k := 1) (j := 8) (CN := R_Net) (T := T_Net) (N := 9) (by decide) rfl rfl (by decide) in_Net hw rfl rfl hd k
theorem Gg_Wal_there (C : Cx γ κ own cc nL d z) {idx : Nat} (hw : Cond.fieldLink own idx "NetForms$Walls" "there" "[Z" ∈ gw) (hd : decode cc pc = .ok (.getfield idx, 3)) (k : G γ κ nL z Q (pc + 3) lv (.ref (κ.1 + 10) :: st) M) : G γ κ nL z Q pc lv (.ref (κ.1 + 9) :: st) M := G_get C (ci := 4) (k := 9) (j := 0) (CN := R_Wal) (T := T_Wal) (N := 2) (by decide) rfl rfl (by decide) in_Wal hw rfl rfl hd k
theorem Gg_Wal_numbers (C : Cx γ κ own cc nL d z) {idx : Nat} (hw : Cond.fieldLink own idx "NetForms$Walls" "numbers" "[I" ∈ gw) (hd : decode cc pc = .ok (.getfield idx, 3)) (k : G γ κ nL z Q (pc + 3) lv (.ref (κ.1 + 11) :: st) M) : G γ κ nL z Q pc lv (.ref (κ.1 + 9) :: st) M := G_get C (ci := 4) (k := 9) (j := 1) (CN := R_Wal) (T := T_Wal) (N := 2) (by decide) rfl rfl (by decide) in_Wal hw rfl rfl hd k
theorem Gg_Wav_steps (C : Cx γ κ own cc nL d z) {idx : Nat} (hw : Cond.fieldLink own idx "NetForms$Wave" "steps" "I" ∈ gw) (hd : decode cc pc = .ok (.getfield idx, 3)) (k : G γ κ nL z Q (pc + 3) lv (.int (M.1 12 0) :: st) M) : G γ κ nL z Q pc lv (.ref (κ.1 + 12) :: st) M := G_get C (ci := 5) (k := 12) (j := 0) (CN := R_Wav) (T := T_Wav) (N := 3) (by decide) rfl rfl (by decide) in_Wav hw rfl rfl hd k
theorem Gp_Wav_steps (C : Cx γ κ own cc nL d z) {idx : Nat} {v : Int32} (hw : Cond.fieldLink own idx "NetForms$Wave" "steps" "I" ∈ gw) (hd : decode cc pc = .ok (.putfield idx, 3)) (k : G γ κ nL z Q (pc + 3) lv st (wI M 12 0 v)) : G γ κ nL z Q pc lv (.int v :: .ref (κ.1 + 12) :: st) M := G_putI C (ci := 5) (k := 12) (j := 0) (CN := R_Wav) (T := T_Wav) (N := 3) (by decide) rfl rfl rfl (by decide) in_Wav ty_Wav tk_Wav nm_Wav hw rfl rfl (by decide +kernel) (Nat.le_of_ble_eq_true rfl) hd k
theorem Gg_Wav_levels (C : Cx γ κ own cc nL d z) {idx : Nat} (hw : Cond.fieldLink own idx "NetForms$Wave" "levels" "[J" ∈ gw) (hd : decode cc pc = .ok (.getfield idx, 3)) (k : G γ κ nL z Q (pc + 3) lv (.ref (κ.1 + 13) :: st) M) : G γ κ nL z Q pc lv (.ref (κ.1 + 12) :: st) M := G_get C (ci := 5) (k := 12) (j := 1) (CN := R_Wav) (T := T_Wav) (N := 3) (by decide) rfl rfl (by decide) in_Wav hw rfl rfl hd k
theorem Gg_Wav_flows (C : Cx γ κ own cc nL d z) {idx : Nat} (hw : Cond.fieldLink own idx "NetForms$Wave" "flows" "[J" ∈ gw) (hd : decode cc pc = .ok (.getfield idx, 3)) (k : G γ κ nL z Q (pc + 3) lv (.ref (κ.1 + 14) :: st) M) : G γ κ nL z Q pc lv (.ref (κ.1 + 12) :: st) M := G_get C (ci := 5) (k := 12) (j := 2) (CN := R_Wav) (T := T_Wav) (N := 3) (by decide) rfl rfl (by decide) in_Wav hw rfl rfl hd k
theorem Gg_Nf_shape (C : Cx γ κ own cc nL d z) {idx : Nat} (hw : Cond.fieldLink own idx "NetForms" "shape" "LNetForms$Net;" ∈ gw) (hd : decode cc pc = .ok (.getfield idx, 3)) (k : G γ κ nL z Q (pc + 3) lv (.ref (κ.1 + 1) :: st) M) : G γ κ nL z Q pc lv (.ref (κ.1 + 0) :: st) M := G_get C (ci := 6) (k := 0) (j := 0) (CN := R_Nf) (T := T_Nf) (N := 7) (by decide) rfl rfl (by decide) in_Nf hw rfl rfl hd k
theorem Gg_Nf_forms (C : Cx γ κ own cc nL d z) {idx : Nat} (hw : Cond.fieldLink own idx "NetForms" "forms" "[LNetForms$Form;" ∈ gw) (hd : decode cc pc = .ok (.getfield idx, 3)) (k : G γ κ nL z Q (pc + 3) lv (.ref (κ.1 + 8) :: st) M) : G γ κ nL z Q pc lv (.ref (κ.1 + 0) :: st) M := G_get C (ci := 6) (k := 0) (j := 1) (CN := R_Nf) (T := T_Nf) (N := 7) (by decide) rfl rfl (by decide) in_Nf hw rfl rfl hd k
theorem Gg_Nf_walls (C : Cx γ κ own cc nL d z) {idx : Nat} (hw : Cond.fieldLink own idx "NetForms" "walls" "LNetForms$Walls;" ∈ gw) (hd : decode cc pc = .ok (.getfield idx, 3)) (k : G γ κ nL z Q (pc + 3) lv (.ref (κ.1 + 9) :: st) M) : G γ κ nL z Q pc lv (.ref (κ.1 + 0) :: st) M := G_get C (ci := 6) (k := 0) (j := 2) (CN := R_Nf) (T := T_Nf) (N := 7) (by decide) rfl rfl (by decide) in_Nf hw rfl rfl hd k
theorem Gg_Nf_motion (C : Cx γ κ own cc nL d z) {idx : Nat} (hw : Cond.fieldLink own idx "NetForms" "motion" "LNetForms$Wave;" ∈ gw) (hd : decode cc pc = .ok (.getfield idx, 3)) (k : G γ κ nL z Q (pc + 3) lv (.ref (κ.1 + 12) :: st) M) : G γ κ nL z Q pc lv (.ref (κ.1 + 0) :: st) M := G_get C (ci := 6) (k := 0) (j := 3) (CN := R_Nf) (T := T_Nf) (N := 7) (by decide) rfl rfl (by decide) in_Nf hw rfl rfl hd k
theorem Gg_Nf_balance (C : Cx γ κ own cc nL d z) {idx : Nat} (hw : Cond.fieldLink own idx "NetForms" "balance" "LNetForms$Balance;" ∈ gw) (hd : decode cc pc = .ok (.getfield idx, 3)) (k : G γ κ nL z Q (pc + 3) lv (.ref (κ.1 + 15) :: st) M) : G γ κ nL z Q pc lv (.ref (κ.1 + 0) :: st) M := G_get C (ci := 6) (k := 0) (j := 4) (CN := R_Nf) (T := T_Nf) (N := 7) (by decide) rfl rfl (by decide) in_Nf hw rfl rfl hd k
theorem Gg_Nf_climb (C : Cx γ κ own cc nL d z) {idx : Nat} (hw : Cond.fieldLink own idx "NetForms" "climb" "LNetForms$Climb;" ∈ gw) (hd : decode cc pc = .ok (.getfield idx, 3)) (k : G γ κ nL z Q (pc + 3) lv (.ref (κ.1 + 28) :: st) M) : G γ κ nL z Q pc lv (.ref (κ.1 + 0) :: st) M := G_get C (ci := 6) (k := 0) (j := 5) (CN := R_Nf) (T := T_Nf) (N := 7) (by decide) rfl rfl (by decide) in_Nf hw rfl rfl hd k
theorem Gg_Nf_made (C : Cx γ κ own cc nL d z) {idx : Nat} (hw : Cond.fieldLink own idx "NetForms" "made" "[J" ∈ gw) (hd : decode cc pc = .ok (.getfield idx, 3)) (k : G γ κ nL z Q (pc + 3) lv (.ref (κ.1 + 31) :: st) M) : G γ κ nL z Q pc lv (.ref (κ.1 + 0) :: st) M := G_get C (ci := 6) (k := 0) (j := 6) (CN := R_Nf) (T := T_Nf) (N := 7) (by decide) rfl rfl (by decide) in_Nf hw rfl rfl hd k
theorem Gg_Mo_points (C : Cx γ κ own cc nL d z) {idx : Nat} (hw : Cond.fieldLink own idx "NetFormsModel" "points" "I" ∈ gw) (hd : decode cc pc = .ok (.getfield idx, 3)) (k : G γ κ nL z Q (pc + 3) lv (.int (M.1 56 0) :: st) M) : G γ κ nL z Q pc lv (.ref (κ.1 + 56) :: st) M := G_get C (ci := 7) (k := 56) (j := 0) (CN := R_Mo) (T := T_Mo) (N := 26) (by decide) rfl rfl (by decide) in_Mo hw rfl rfl hd k
theorem Gp_Mo_points (C : Cx γ κ own cc nL d z) {idx : Nat} {v : Int32} (hw : Cond.fieldLink own idx "NetFormsModel" "points" "I" ∈ gw) (hd : decode cc pc = .ok (.putfield idx, 3)) (k : G γ κ nL z Q (pc + 3) lv st (wI M 56 0 v)) : G γ κ nL z Q pc lv (.int v :: .ref (κ.1 + 56) :: st) M := G_putI C (ci := 7) (k := 56) (j := 0) (CN := R_Mo) (T := T_Mo) (N := 26) (by decide) rfl rfl rfl (by decide) in_Mo ty_Mo tk_Mo nm_Mo hw rfl rfl (by decide +kernel) (Nat.le_of_ble_eq_true rfl) hd k
theorem Gg_Mo_edges (C : Cx γ κ own cc nL d z) {idx : Nat} (hw : Cond.fieldLink own idx "NetFormsModel" "edges" "I" ∈ gw) (hd : decode cc pc = .ok (.getfield idx, 3)) (k : G γ κ nL z Q (pc + 3) lv (.int (M.1 56 1) :: st) M) : G γ κ nL z Q pc lv (.ref (κ.1 + 56) :: st) M := G_get C (ci := 7) (k := 56) (j := 1) (CN := R_Mo) (T := T_Mo) (N := 26) (by decide) rfl rfl (by decide) in_Mo hw rfl rfl hd k
theorem Gp_Mo_edges (C : Cx γ κ own cc nL d z) {idx : Nat} {v : Int32} (hw : Cond.fieldLink own idx "NetFormsModel" "edges" "I" ∈ gw) (hd : decode cc pc = .ok (.putfield idx, 3)) (k : G γ κ nL z Q (pc + 3) lv st (wI M 56 1 v)) : G γ κ nL z Q pc lv (.int v :: .ref (κ.1 + 56) :: st) M := G_putI C (ci := 7) (k := 56) (j := 1) (CN := R_Mo) (T := T_Mo) (N := 26) (by decide) rfl rfl rfl (by decide) in_Mo ty_Mo tk_Mo nm_Mo hw rfl rfl (by decide +kernel) (Nat.le_of_ble_eq_true rfl) hd k
theorem Gg_Mo_faces (C : Cx γ κ own cc nL d z) {idx : Nat} (hw : Cond.fieldLink own idx "NetFormsModel" "faces" "I" ∈ gw) (hd : decode cc pc = .ok (.getfield idx, 3)) (k : G γ κ nL z Q (pc + 3) lv (.int (M.1 56 2) :: st) M) : G γ κ nL z Q pc lv (.ref (κ.1 + 56) :: st) M := G_get C (ci := 7) (k := 56) (j := 2) (CN := R_Mo) (T := T_Mo) (N := 26) (by decide) rfl rfl (by decide) in_Mo hw rfl rfl hd k
theorem Gp_Mo_faces (C : Cx γ κ own cc nL d z) {idx : Nat} {v : Int32} (hw : Cond.fieldLink own idx "NetFormsModel" "faces" "I" ∈ gw) (hd : decode cc pc = .ok (.putfield idx, 3)) (k : G γ κ nL z Q (pc + 3) lv st (wI M 56 2 v)) : G γ κ nL z Q pc lv (.int v :: .ref (κ.1 + 56) :: st) M := G_putI C (ci := 7) (k := 56) (j := 2) (CN := R_Mo) (T := T_Mo) (N := 26) (by decide) rfl rfl rfl (by decide) in_Mo ty_Mo tk_Mo nm_Mo hw rfl rfl (by decide +kernel) (Nat.le_of_ble_eq_true rfl) hd k
theorem Gg_Mo_begin (C : Cx γ κ own cc nL d z) {idx : Nat} (hw : Cond.fieldLink own idx "NetFormsModel" "begin" "[I" ∈ gw) (hd : decode cc pc = .ok (.getfield idx, 3)) (k : G γ κ nL z Q (pc + 3) lv (.ref (κ.1 + 57) :: st) M) : G γ κ nL z Q pc lv (.ref (κ.1 + 56) :: st) M := G_get C (ci := 7) (k := 56) (j := 3) (CN := R_Mo) (T := T_Mo) (N := 26) (by decide) rfl rfl (by decide) in_Mo hw rfl rfl hd k
theorem Gg_Mo_end (C : Cx γ κ own cc nL d z) {idx : Nat} (hw : Cond.fieldLink own idx "NetFormsModel" "end" "[I" ∈ gw) (hd : decode cc pc = .ok (.getfield idx, 3)) (k : G γ κ nL z Q (pc + 3) lv (.ref (κ.1 + 58) :: st) M) : G γ κ nL z Q pc lv (.ref (κ.1 + 56) :: st) M := G_get C (ci := 7) (k := 56) (j := 4) (CN := R_Mo) (T := T_Mo) (N := 26) (by decide) rfl rfl (by decide) in_Mo hw rfl rfl hd k
theorem Gg_Mo_first (C : Cx γ κ own cc nL d z) {idx : Nat} (hw : Cond.fieldLink own idx "NetFormsModel" "first" "[I" ∈ gw) (hd : decode cc pc = .ok (.getfield idx, 3)) (k : G γ κ nL z Q (pc + 3) lv (.ref (κ.1 + 59) :: st) M) : G γ κ nL z Q pc lv (.ref (κ.1 + 56) :: st) M := G_get C (ci := 7) (k := 56) (j := 5) (CN := R_Mo) (T := T_Mo) (N := 26) (by decide) rfl rfl (by decide) in_Mo hw rfl rfl hd k
theorem Gg_Mo_second (C : Cx γ κ own cc nL d z) {idx : Nat} (hw : Cond.fieldLink own idx "NetFormsModel" "second" "[I" ∈ gw) (hd : decode cc pc = .ok (.getfield idx, 3)) (k : G γ κ nL z Q (pc + 3) lv (.ref (κ.1 + 60) :: st) M) : G γ κ nL z Q pc lv (.ref (κ.1 + 56) :: st) M := G_get C (ci := 7) (k := 56) (j := 6) (CN := R_Mo) (T := T_Mo) (N := 26) (by decide) rfl rfl (by decide) in_Mo hw rfl rfl hd k
theorem Gg_Mo_third (C : Cx γ κ own cc nL d z) {idx : Nat} (hw : Cond.fieldLink own idx "NetFormsModel" "third" "[I" ∈ gw) (hd : decode cc pc = .ok (.getfield idx, 3)) (k : G γ κ nL z Q (pc + 3) lv (.ref (κ.1 + 61) :: st) M) : G γ κ nL z Q pc lv (.ref (κ.1 + 56) :: st) M := G_get C (ci := 7) (k := 56) (j := 7) (CN := R_Mo) (T := T_Mo) (N := 26) (by decide) rfl rfl (by decide) in_Mo hw rfl rfl hd k
theorem Gg_Mo_degree (C : Cx γ κ own cc nL d z) {idx : Nat} (hw : Cond.fieldLink own idx "NetFormsModel" "degree" "[I" ∈ gw) (hd : decode cc pc = .ok (.getfield idx, 3)) (k : G γ κ nL z Q (pc + 3) lv (.ref (κ.1 + 62) :: st) M) : G γ κ nL z Q pc lv (.ref (κ.1 + 56) :: st) M := G_get C (ci := 7) (k := 56) (j := 8) (CN := R_Mo) (T := T_Mo) (N := 26) (by decide) rfl rfl (by decide) in_Mo hw rfl rfl hd k
theorem Gg_Mo_number (C : Cx γ κ own cc nL d z) {idx : Nat} (hw : Cond.fieldLink own idx "NetFormsModel" "number" "[I" ∈ gw) (hd : decode cc pc = .ok (.getfield idx, 3)) (k : G γ κ nL z Q (pc + 3) lv (.ref (κ.1 + 63) :: st) M) : G γ κ nL z Q pc lv (.ref (κ.1 + 56) :: st) M := G_get C (ci := 7) (k := 56) (j := 9) (CN := R_Mo) (T := T_Mo) (N := 26) (by decide) rfl rfl (by decide) in_Mo hw rfl rfl hd k
theorem Gg_Mo_isWall (C : Cx γ κ own cc nL d z) {idx : Nat} (hw : Cond.fieldLink own idx "NetFormsModel" "isWall" "[Z" ∈ gw) (hd : decode cc pc = .ok (.getfield idx, 3)) (k : G γ κ nL z Q (pc + 3) lv (.ref (κ.1 + 64) :: st) M) : G γ κ nL z Q pc lv (.ref (κ.1 + 56) :: st) M := G_get C (ci := 7) (k := 56) (j := 10) (CN := R_Mo) (T := T_Mo) (N := 26) (by decide) rfl rfl (by decide) in_Mo hw rfl rfl hd k
theorem Gg_Mo_wall (C : Cx γ κ own cc nL d z) {idx : Nat} (hw : Cond.fieldLink own idx "NetFormsModel" "wall" "[I" ∈ gw) (hd : decode cc pc = .ok (.getfield idx, 3)) (k : G γ κ nL z Q (pc + 3) lv (.ref (κ.1 + 65) :: st) M) : G γ κ nL z Q pc lv (.ref (κ.1 + 56) :: st) M := G_get C (ci := 7) (k := 56) (j := 11) (CN := R_Mo) (T := T_Mo) (N := 26) (by decide) rfl rfl (by decide) in_Mo hw rfl rfl hd k
theorem Gg_Mo_height (C : Cx γ κ own cc nL d z) {idx : Nat} (hw : Cond.fieldLink own idx "NetFormsModel" "height" "[J" ∈ gw) (hd : decode cc pc = .ok (.getfield idx, 3)) (k : G γ κ nL z Q (pc + 3) lv (.ref (κ.1 + 66) :: st) M) : G γ κ nL z Q pc lv (.ref (κ.1 + 56) :: st) M := G_get C (ci := 7) (k := 56) (j := 12) (CN := R_Mo) (T := T_Mo) (N := 26) (by decide) rfl rfl (by decide) in_Mo hw rfl rfl hd k
theorem Gg_Mo_flow (C : Cx γ κ own cc nL d z) {idx : Nat} (hw : Cond.fieldLink own idx "NetFormsModel" "flow" "[J" ∈ gw) (hd : decode cc pc = .ok (.getfield idx, 3)) (k : G γ κ nL z Q (pc + 3) lv (.ref (κ.1 + 67) :: st) M) : G γ κ nL z Q pc lv (.ref (κ.1 + 56) :: st) M := G_get C (ci := 7) (k := 56) (j := 13) (CN := R_Mo) (T := T_Mo) (N := 26) (by decide) rfl rfl (by decide) in_Mo hw rfl rfl hd k
theorem Gg_Mo_steps (C : Cx γ κ own cc nL d z) {idx : Nat} (hw : Cond.fieldLink own idx "NetFormsModel" "steps" "I" ∈ gw) (hd : decode cc pc = .ok (.getfield idx, 3)) (k : G γ κ nL z Q (pc + 3) lv (.int (M.1 56 14) :: st) M) : G γ κ nL z Q pc lv (.ref (κ.1 + 56) :: st) M := G_get C (ci := 7) (k := 56) (j := 14) (CN := R_Mo) (T := T_Mo) (N := 26) (by decide) rfl rfl (by decide) in_Mo hw rfl rfl hd k
theorem Gp_Mo_steps (C : Cx γ κ own cc nL d z) {idx : Nat} {v : Int32} (hw : Cond.fieldLink own idx "NetFormsModel" "steps" "I" ∈ gw) (hd : decode cc pc = .ok (.putfield idx, 3)) (k : G γ κ nL z Q (pc + 3) lv st (wI M 56 14 v)) : G γ κ nL z Q pc lv (.int v :: .ref (κ.1 + 56) :: st) M := G_putI C (ci := 7) (k := 56) (j := 14) (CN := R_Mo) (T := T_Mo) (N := 26) (by decide) rfl rfl rfl (by decide) in_Mo ty_Mo tk_Mo nm_Mo hw rfl rfl (by decide +kernel) (Nat.le_of_ble_eq_true rfl) hd k
theorem Gg_Mo_made (C : Cx γ κ own cc nL d z) {idx : Nat} (hw : Cond.fieldLink own idx "NetFormsModel" "made" "[J" ∈ gw) (hd : decode cc pc = .ok (.getfield idx, 3)) (k : G γ κ nL z Q (pc + 3) lv (.ref (κ.1 + 68) :: st) M) : G γ κ nL z Q pc lv (.ref (κ.1 + 56) :: st) M := G_get C (ci := 7) (k := 56) (j := 15) (CN := R_Mo) (T := T_Mo) (N := 26) (by decide) rfl rfl (by decide) in_Mo hw rfl rfl hd k
theorem Gg_Mo_table (C : Cx γ κ own cc nL d z) {idx : Nat} (hw : Cond.fieldLink own idx "NetFormsModel" "table" "[J" ∈ gw) (hd : decode cc pc = .ok (.getfield idx, 3)) (k : G γ κ nL z Q (pc + 3) lv (.ref (κ.1 + 69) :: st) M) : G γ κ nL z Q pc lv (.ref (κ.1 + 56) :: st) M := G_get C (ci := 7) (k := 56) (j := 16) (CN := R_Mo) (T := T_Mo) (N := 26) (by decide) rfl rfl (by decide) in_Mo hw rfl rfl hd k
theorem Gg_Mo_placeOf (C : Cx γ κ own cc nL d z) {idx : Nat} (hw : Cond.fieldLink own idx "NetFormsModel" "placeOf" "[I" ∈ gw) (hd : decode cc pc = .ok (.getfield idx, 3)) (k : G γ κ nL z Q (pc + 3) lv (.ref (κ.1 + 70) :: st) M) : G γ κ nL z Q pc lv (.ref (κ.1 + 56) :: st) M := G_get C (ci := 7) (k := 56) (j := 17) (CN := R_Mo) (T := T_Mo) (N := 26) (by decide) rfl rfl (by decide) in_Mo hw rfl rfl hd k
theorem Gg_Mo_shared (C : Cx γ κ own cc nL d z) {idx : Nat} (hw : Cond.fieldLink own idx "NetFormsModel" "shared" "J" ∈ gw) (hd : decode cc pc = .ok (.getfield idx, 3)) (k : G γ κ nL z Q (pc + 3) lv (.long (M.2 56 18) :: st) M) : G γ κ nL z Q pc lv (.ref (κ.1 + 56) :: st) M := G_get C (ci := 7) (k := 56) (j := 18) (CN := R_Mo) (T := T_Mo) (N := 26) (by decide) rfl rfl (by decide) in_Mo hw rfl rfl hd k
theorem Gp_Mo_shared (C : Cx γ κ own cc nL d z) {idx : Nat} {v : Int64} (hw : Cond.fieldLink own idx "NetFormsModel" "shared" "J" ∈ gw) (hd : decode cc pc = .ok (.putfield idx, 3)) (k : G γ κ nL z Q (pc + 3) lv st (wJ M 56 18 v)) : G γ κ nL z Q pc lv (.long v :: .ref (κ.1 + 56) :: st) M := G_putJ C (ci := 7) (k := 56) (j := 18) (CN := R_Mo) (T := T_Mo) (N := 26) (by decide) rfl rfl rfl (by decide) in_Mo ty_Mo tk_Mo nm_Mo hw rfl rfl (by decide +kernel) (Nat.le_of_ble_eq_true rfl) hd k
theorem Gg_Mo_solved (C : Cx γ κ own cc nL d z) {idx : Nat} (hw : Cond.fieldLink own idx "NetFormsModel" "solved" "[J" ∈ gw) (hd : decode cc pc = .ok (.getfield idx, 3)) (k : G γ κ nL z Q (pc + 3) lv (.ref (κ.1 + 71) :: st) M) : G γ κ nL z Q pc lv (.ref (κ.1 + 56) :: st) M := G_get C (ci := 7) (k := 56) (j := 19) (CN := R_Mo) (T := T_Mo) (N := 26) (by decide) rfl rfl (by decide) in_Mo hw rfl rfl hd k
theorem Gg_Mo_partOf (C : Cx γ κ own cc nL d z) {idx : Nat} (hw : Cond.fieldLink own idx "NetFormsModel" "partOf" "[I" ∈ gw) (hd : decode cc pc = .ok (.getfield idx, 3)) (k : G γ κ nL z Q (pc + 3) lv (.ref (κ.1 + 72) :: st) M) : G γ κ nL z Q pc lv (.ref (κ.1 + 56) :: st) M := G_get C (ci := 7) (k := 56) (j := 20) (CN := R_Mo) (T := T_Mo) (N := 26) (by decide) rfl rfl (by decide) in_Mo hw rfl rfl hd k
theorem Gg_Mo_raised (C : Cx γ κ own cc nL d z) {idx : Nat} (hw : Cond.fieldLink own idx "NetFormsModel" "raised" "[J" ∈ gw) (hd : decode cc pc = .ok (.getfield idx, 3)) (k : G γ κ nL z Q (pc + 3) lv (.ref (κ.1 + 73) :: st) M) : G γ κ nL z Q pc lv (.ref (κ.1 + 56) :: st) M := G_get C (ci := 7) (k := 56) (j := 21) (CN := R_Mo) (T := T_Mo) (N := 26) (by decide) rfl rfl (by decide) in_Mo hw rfl rfl hd k
theorem Gg_Mo_slopePart (C : Cx γ κ own cc nL d z) {idx : Nat} (hw : Cond.fieldLink own idx "NetFormsModel" "slopePart" "[J" ∈ gw) (hd : decode cc pc = .ok (.getfield idx, 3)) (k : G γ κ nL z Q (pc + 3) lv (.ref (κ.1 + 74) :: st) M) : G γ κ nL z Q pc lv (.ref (κ.1 + 56) :: st) M := G_get C (ci := 7) (k := 56) (j := 22) (CN := R_Mo) (T := T_Mo) (N := 26) (by decide) rfl rfl (by decide) in_Mo hw rfl rfl hd k
theorem Gg_Mo_rimPart (C : Cx γ κ own cc nL d z) {idx : Nat} (hw : Cond.fieldLink own idx "NetFormsModel" "rimPart" "[J" ∈ gw) (hd : decode cc pc = .ok (.getfield idx, 3)) (k : G γ κ nL z Q (pc + 3) lv (.ref (κ.1 + 75) :: st) M) : G γ κ nL z Q pc lv (.ref (κ.1 + 56) :: st) M := G_get C (ci := 7) (k := 56) (j := 23) (CN := R_Mo) (T := T_Mo) (N := 26) (by decide) rfl rfl (by decide) in_Mo hw rfl rfl hd k
theorem Gg_Mo_slopeShared (C : Cx γ κ own cc nL d z) {idx : Nat} (hw : Cond.fieldLink own idx "NetFormsModel" "slopeShared" "J" ∈ gw) (hd : decode cc pc = .ok (.getfield idx, 3)) (k : G γ κ nL z Q (pc + 3) lv (.long (M.2 56 24) :: st) M) : G γ κ nL z Q pc lv (.ref (κ.1 + 56) :: st) M := G_get C (ci := 7) (k := 56) (j := 24) (CN := R_Mo) (T := T_Mo) (N := 26) (by decide) rfl rfl (by decide) in_Mo hw rfl rfl hd k
theorem Gp_Mo_slopeShared (C : Cx γ κ own cc nL d z) {idx : Nat} {v : Int64} (hw : Cond.fieldLink own idx "NetFormsModel" "slopeShared" "J" ∈ gw) (hd : decode cc pc = .ok (.putfield idx, 3)) (k : G γ κ nL z Q (pc + 3) lv st (wJ M 56 24 v)) : G γ κ nL z Q pc lv (.long v :: .ref (κ.1 + 56) :: st) M := G_putJ C (ci := 7) (k := 56) (j := 24) (CN := R_Mo) (T := T_Mo) (N := 26) (by decide) rfl rfl rfl (by decide) in_Mo ty_Mo tk_Mo nm_Mo hw rfl rfl (by decide +kernel) (Nat.le_of_ble_eq_true rfl) hd k
theorem Gg_Mo_rimShared (C : Cx γ κ own cc nL d z) {idx : Nat} (hw : Cond.fieldLink own idx "NetFormsModel" "rimShared" "J" ∈ gw) (hd : decode cc pc = .ok (.getfield idx, 3)) (k : G γ κ nL z Q (pc + 3) lv (.long (M.2 56 25) :: st) M) : G γ κ nL z Q pc lv (.ref (κ.1 + 56) :: st) M := G_get C (ci := 7) (k := 56) (j := 25) (CN := R_Mo) (T := T_Mo) (N := 26) (by decide) rfl rfl (by decide) in_Mo hw rfl rfl hd k
theorem Gp_Mo_rimShared (C : Cx γ κ own cc nL d z) {idx : Nat} {v : Int64} (hw : Cond.fieldLink own idx "NetFormsModel" "rimShared" "J" ∈ gw) (hd : decode cc pc = .ok (.putfield idx, 3)) (k : G γ κ nL z Q (pc + 3) lv st (wJ M 56 25 v)) : G γ κ nL z Q pc lv (.long v :: .ref (κ.1 + 56) :: st) M := G_putJ C (ci := 7) (k := 56) (j := 25) (CN := R_Mo) (T := T_Mo) (N := 26) (by decide) rfl rfl rfl (by decide) in_Mo ty_Mo tk_Mo nm_Mo hw rfl rfl (by decide +kernel) (Nat.le_of_ble_eq_true rfl) hd k
end GR2
theorem wd_25 : (Cond.fieldLink "NetForms$Net" (30 : Nat) "NetForms$Net" "points" "I") ∈ gw := gw_t 25 (by decide +kernel) (by decide +kernel)
theorem wd_26 : (Cond.fieldLink "NetForms$Walls" (19 : Nat) "NetForms$Net" "points" "I") ∈ gw := gw_t 26 (by decide +kernel) (by decide +kernel)
theorem wd_27 : (Cond.fieldLink "NetForms" (147 : Nat) "NetForms$Net" "points" "I") ∈ gw := gw_t 27 (by decide +kernel) (by decide +kernel)
theorem wd_28 : (Cond.fieldLink "NetForms$Net" (34 : Nat) "NetForms$Net" "edges" "I") ∈ gw := gw_t 28 (by decide +kernel) (by decide +kernel)
theorem wd_29 : (Cond.fieldLink "NetForms$Climb" (19 : Nat) "NetForms$Net" "edges" "I") ∈ gw := gw_t 29 (by decide +kernel) (by decide +kernel)
theorem wd_30 : (Cond.fieldLink "NetForms$Wave" (28 : Nat) "NetForms$Net" "edges" "I") ∈ gw := gw_t 30 (by decide +kernel) (by decide +kernel)
theorem wd_31 : (Cond.fieldLink "NetForms" (71 : Nat) "NetForms$Net" "edges" "I") ∈ gw := gw_t 31 (by decide +kernel) (by decide +kernel)
theorem wd_32 : (Cond.fieldLink "NetForms$Net" (37 : Nat) "NetForms$Net" "plates" "I") ∈ gw := gw_t 32 (by decide +kernel) (by decide +kernel)
theorem wd_33 : (Cond.fieldLink "NetForms" (81 : Nat) "NetForms$Net" "plates" "I") ∈ gw := gw_t 33 (by decide +kernel) (by decide +kernel)
theorem wd_34 : (Cond.fieldLink "NetForms$Net" (9 : Nat) "NetForms$Net" "begins" "[I") ∈ gw := gw_t 34 (by decide +kernel) (by decide +kernel)
theorem wd_35 : (Cond.fieldLink "NetForms$Climb" (25 : Nat) "NetForms$Net" "begins" "[I") ∈ gw := gw_t 35 (by decide +kernel) (by decide +kernel)
theorem wd_36 : (Cond.fieldLink "NetForms$Wave" (33 : Nat) "NetForms$Net" "begins" "[I") ∈ gw := gw_t 36 (by decide +kernel) (by decide +kernel)
theorem wd_37 : (Cond.fieldLink "NetForms" (252 : Nat) "NetForms$Net" "begins" "[I") ∈ gw := gw_t 37 (by decide +kernel) (by decide +kernel)
theorem wd_38 : (Cond.fieldLink "NetForms$Net" (15 : Nat) "NetForms$Net" "ends" "[I") ∈ gw := gw_t 38 (by decide +kernel) (by decide +kernel)
theorem wd_39 : (Cond.fieldLink "NetForms$Climb" (28 : Nat) "NetForms$Net" "ends" "[I") ∈ gw := gw_t 39 (by decide +kernel) (by decide +kernel)
theorem wd_40 : (Cond.fieldLink "NetForms$Wave" (37 : Nat) "NetForms$Net" "ends" "[I") ∈ gw := gw_t 40 (by decide +kernel) (by decide +kernel)
theorem wd_41 : (Cond.fieldLink "NetForms" (255 : Nat) "NetForms$Net" "ends" "[I") ∈ gw := gw_t 41 (by decide +kernel) (by decide +kernel)
theorem wd_42 : (Cond.fieldLink "NetForms$Net" (18 : Nat) "NetForms$Net" "firsts" "[I") ∈ gw := gw_t 42 (by decide +kernel) (by decide +kernel)
theorem wd_43 : (Cond.fieldLink "NetForms$Net" (21 : Nat) "NetForms$Net" "seconds" "[I") ∈ gw := gw_t 43 (by decide +kernel) (by decide +kernel)
theorem wd_44 : (Cond.fieldLink "NetForms$Net" (24 : Nat) "NetForms$Net" "acrosses" "[I") ∈ gw := gw_t 44 (by decide +kernel) (by decide +kernel)
theorem wd_45 : (Cond.fieldLink "NetForms$Net" (27 : Nat) "NetForms$Net" "leasts" "[I") ∈ gw := gw_t 45 (by decide +kernel) (by decide +kernel)
theorem wd_46 : (Cond.fieldLink "NetForms$Walls" (25 : Nat) "NetForms$Net" "leasts" "[I") ∈ gw := gw_t 46 (by decide +kernel) (by decide +kernel)
theorem wd_75 : (Cond.fieldLink "NetForms$Walls" (9 : Nat) "NetForms$Walls" "there" "[Z") ∈ gw := gw_t 75 (by decide +kernel) (by decide +kernel)
theorem wd_76 : (Cond.fieldLink "NetForms" (179 : Nat) "NetForms$Walls" "there" "[Z") ∈ gw := gw_t 76 (by decide +kernel) (by decide +kernel)
theorem wd_78 : (Cond.fieldLink "NetForms" (183 : Nat) "NetForms$Walls" "numbers" "[I") ∈ gw := gw_t 78 (by decide +kernel) (by decide +kernel)
theorem wd_91 : (Cond.fieldLink "NetForms$Wave" (18 : Nat) "NetForms$Wave" "steps" "I") ∈ gw := gw_t 91 (by decide +kernel) (by decide +kernel)
theorem wd_92 : (Cond.fieldLink "NetForms" (202 : Nat) "NetForms$Wave" "steps" "I") ∈ gw := gw_t 92 (by decide +kernel) (by decide +kernel)
theorem wd_93 : (Cond.fieldLink "NetForms$Wave" (9 : Nat) "NetForms$Wave" "levels" "[J") ∈ gw := gw_t 93 (by decide +kernel) (by decide +kernel)
theorem wd_94 : (Cond.fieldLink "NetForms" (205 : Nat) "NetForms$Wave" "levels" "[J") ∈ gw := gw_t 94 (by decide +kernel) (by decide +kernel)
theorem wd_95 : (Cond.fieldLink "NetForms$Wave" (15 : Nat) "NetForms$Wave" "flows" "[J") ∈ gw := gw_t 95 (by decide +kernel) (by decide +kernel)
theorem wd_96 : (Cond.fieldLink "NetForms" (208 : Nat) "NetForms$Wave" "flows" "[J") ∈ gw := gw_t 96 (by decide +kernel) (by decide +kernel)
theorem wd_113 : (Cond.fieldLink "NetForms$Balance" (24 : Nat) "NetForms$Balance" "size" "I") ∈ gw := gw_t 113 (by decide +kernel) (by decide +kernel)
theorem wd_114 : (Cond.fieldLink "NetForms$Balance" (11 : Nat) "NetForms$Balance" "table" "[[J") ∈ gw := gw_t 114 (by decide +kernel) (by decide +kernel)
theorem wd_115 : (Cond.fieldLink "NetForms$Balance" (14 : Nat) "NetForms$Balance" "dues" "[J") ∈ gw := gw_t 115 (by decide +kernel) (by decide +kernel)
theorem wd_116 : (Cond.fieldLink "NetForms$Balance" (34 : Nat) "NetForms$Balance" "rank" "I") ∈ gw := gw_t 116 (by decide +kernel) (by decide +kernel)
theorem wd_117 : (Cond.fieldLink "NetForms" (245 : Nat) "NetForms$Balance" "rank" "I") ∈ gw := gw_t 117 (by decide +kernel) (by decide +kernel)
theorem wd_118 : (Cond.fieldLink "NetForms$Balance" (37 : Nat) "NetForms$Balance" "below" "J") ∈ gw := gw_t 118 (by decide +kernel) (by decide +kernel)
theorem wd_119 : (Cond.fieldLink "NetForms" (164 : Nat) "NetForms$Balance" "below" "J") ∈ gw := gw_t 119 (by decide +kernel) (by decide +kernel)
theorem wd_137 : (Cond.fieldLink "NetForms$Climb" (9 : Nat) "NetForms$Climb" "climbed" "[J") ∈ gw := gw_t 137 (by decide +kernel) (by decide +kernel)
theorem wd_138 : (Cond.fieldLink "NetForms$Climb" (15 : Nat) "NetForms$Climb" "leasts" "[I") ∈ gw := gw_t 138 (by decide +kernel) (by decide +kernel)
theorem wd_149 : (Cond.fieldLink "NetForms$Form" (15 : Nat) "NetForms$Form" "degree" "I") ∈ gw := gw_t 149 (by decide +kernel) (by decide +kernel)
theorem wd_150 : (Cond.fieldLink "NetForms" (95 : Nat) "NetForms$Form" "degree" "I") ∈ gw := gw_t 150 (by decide +kernel) (by decide +kernel)
theorem wd_151 : (Cond.fieldLink "NetForms$Form" (9 : Nat) "NetForms$Form" "numbers" "[I") ∈ gw := gw_t 151 (by decide +kernel) (by decide +kernel)
theorem wd_152 : (Cond.fieldLink "NetForms$Climb" (31 : Nat) "NetForms$Form" "numbers" "[I") ∈ gw := gw_t 152 (by decide +kernel) (by decide +kernel)
theorem wd_153 : (Cond.fieldLink "NetForms" (104 : Nat) "NetForms$Form" "numbers" "[I") ∈ gw := gw_t 153 (by decide +kernel) (by decide +kernel)
theorem wd_159 : (Cond.methodLink "NetForms" (55 : Nat) y_Net_begin) ∈ gw := gw_t 159 (by decide +kernel) (by decide +kernel)
theorem wd_163 : (Cond.fieldLink "NetForms" (10 : Nat) "NetForms" "shape" "LNetForms$Net;") ∈ gw := gw_t 163 (by decide +kernel) (by decide +kernel)
theorem wd_164 : (Cond.fieldLink "NetForms" (18 : Nat) "NetForms" "forms" "[LNetForms$Form;") ∈ gw := gw_t 164 (by decide +kernel) (by decide +kernel)
theorem wd_165 : (Cond.fieldLink "NetForms" (25 : Nat) "NetForms" "walls" "LNetForms$Walls;") ∈ gw := gw_t 165 (by decide +kernel) (by decide +kernel)
theorem wd_166 : (Cond.fieldLink "NetForms" (32 : Nat) "NetForms" "motion" "LNetForms$Wave;") ∈ gw := gw_t 166 (by decide +kernel) (by decide +kernel)
theorem wd_167 : (Cond.fieldLink "NetForms" (39 : Nat) "NetForms" "balance" "LNetForms$Balance;") ∈ gw := gw_t 167 (by decide +kernel) (by decide +kernel)
theorem wd_168 : (Cond.fieldLink "NetForms" (46 : Nat) "NetForms" "climb" "LNetForms$Climb;") ∈ gw := gw_t 168 (by decide +kernel) (by decide +kernel)
theorem wd_169 : (Cond.fieldLink "NetForms" (50 : Nat) "NetForms" "made" "[J") ∈ gw := gw_t 169 (by decide +kernel) (by decide +kernel)
theorem wd_189 : (Cond.methodLink "NetForms" (59 : Nat) y_Frm_begin) ∈ gw := gw_t 189 (by decide +kernel) (by decide +kernel)
theorem wd_193 : (Cond.methodLink "NetForms$Form" (19 : Nat) y_Arr_fill_IIV) ∈ gw := gw_t 193 (by decide +kernel) (by decide +kernel)
theorem wd_196 : (Cond.methodLink "NetForms" (60 : Nat) y_Wal_begin) ∈ gw := gw_t 196 (by decide +kernel) (by decide +kernel)
theorem wd_200 : (Cond.methodLink "NetForms" (62 : Nat) y_Wav_begin) ∈ gw := gw_t 200 (by decide +kernel) (by decide +kernel)
theorem wd_204 : (Cond.methodLink "NetForms$Wave" (22 : Nat) y_Arr_fill_JJV) ∈ gw := gw_t 204 (by decide +kernel) (by decide +kernel)
theorem wd_211 : (Cond.methodLink "NetForms" (63 : Nat) y_Net_has) ∈ gw := gw_t 211 (by decide +kernel) (by decide +kernel)
theorem wd_215 : (Cond.methodLink "NetForms$Net" (40 : Nat) y_Net_size) ∈ gw := gw_t 215 (by decide +kernel) (by decide +kernel)
theorem wd_219 : (Cond.methodLink "NetForms" (67 : Nat) y_Net_edgeBetween) ∈ gw := gw_t 219 (by decide +kernel) (by decide +kernel)
theorem wd_223 : (Cond.methodLink "NetForms" (75 : Nat) y_Net_addEdge) ∈ gw := gw_t 223 (by decide +kernel) (by decide +kernel)
theorem wd_227 : (Cond.methodLink "NetForms$Net" (44 : Nat) y_Mat_min) ∈ gw := gw_t 227 (by decide +kernel) (by decide +kernel)
theorem wd_230 : (Cond.methodLink "NetForms$Net" (50 : Nat) y_Mat_max) ∈ gw := gw_t 230 (by decide +kernel) (by decide +kernel)
theorem wd_237 : (Cond.methodLink "NetForms" (78 : Nat) y_Net_hasPlateOf) ∈ gw := gw_t 237 (by decide +kernel) (by decide +kernel)
theorem wd_241 : (Cond.methodLink "NetForms" (84 : Nat) y_Net_addPlate) ∈ gw := gw_t 241 (by decide +kernel) (by decide +kernel)
theorem wd_249 : (Cond.methodLink "NetForms" (88 : Nat) y_Net_pointOf) ∈ gw := gw_t 249 (by decide +kernel) (by decide +kernel)
theorem wd_257 : (Cond.methodLink "NetForms" (91 : Nat) y_Nf_formAt) ∈ gw := gw_t 257 (by decide +kernel) (by decide +kernel)
theorem wd_265 : (Cond.constant "NetForms" (98 : Nat) (1000000 : Int32)) ∈ gw := gw_t 265 (by decide +kernel) (by decide +kernel)
theorem wd_266 : (Cond.methodLink "NetForms" (99 : Nat) y_Nf_isWithin) ∈ gw := gw_t 266 (by decide +kernel) (by decide +kernel)
theorem wd_269 : (Cond.constant "NetForms" (103 : Nat) (-2000000 : Int32)) ∈ gw := gw_t 269 (by decide +kernel) (by decide +kernel)
theorem wd_278 : (Cond.methodLink "NetForms" (108 : Nat) y_Nf_makeSlope) ∈ gw := gw_t 278 (by decide +kernel) (by decide +kernel)
theorem wd_282 : (Cond.methodLink "NetForms" (119 : Nat) y_Net_size) ∈ gw := gw_t 282 (by decide +kernel) (by decide +kernel)
theorem wd_283 : (Cond.methodLink "NetForms" (232 : Nat) y_Net_signOf) ∈ gw := gw_t 283 (by decide +kernel) (by decide +kernel)
theorem wd_287 : (Cond.methodLink "NetForms" (112 : Nat) y_Nf_giveMade) ∈ gw := gw_t 287 (by decide +kernel) (by decide +kernel)
theorem wd_295 : (Cond.methodLink "NetForms" (116 : Nat) y_Nf_makeRim) ∈ gw := gw_t 295 (by decide +kernel) (by decide +kernel)
theorem wd_303 : (Cond.methodLink "NetForms" (123 : Nat) y_Net_frontOf) ∈ gw := gw_t 303 (by decide +kernel) (by decide +kernel)
theorem wd_307 : (Cond.methodLink "NetForms$Net" (53 : Nat) y_Net_pointOf) ∈ gw := gw_t 307 (by decide +kernel) (by decide +kernel)
theorem wd_308 : (Cond.methodLink "NetForms" (126 : Nat) y_Net_backOf) ∈ gw := gw_t 308 (by decide +kernel) (by decide +kernel)
theorem wd_320 : (Cond.methodLink "NetForms" (129 : Nat) y_Frm_fitsIn) ∈ gw := gw_t 320 (by decide +kernel) (by decide +kernel)
theorem wd_325 : (Cond.methodLink "NetForms" (133 : Nat) y_Nf_hasNoSlope) ∈ gw := gw_t 325 (by decide +kernel) (by decide +kernel)
theorem wd_329 : (Cond.methodLink "NetForms" (235 : Nat) y_Nf_isMadeZero) ∈ gw := gw_t 329 (by decide +kernel) (by decide +kernel)
theorem wd_333 : (Cond.methodLink "NetForms" (137 : Nat) y_Nf_hasNoRim) ∈ gw := gw_t 333 (by decide +kernel) (by decide +kernel)
theorem wd_341 : (Cond.methodLink "NetForms" (140 : Nat) y_Net_countParts) ∈ gw := gw_t 341 (by decide +kernel) (by decide +kernel)
theorem wd_345 : (Cond.methodLink "NetForms" (144 : Nat) y_Nf_countTurns) ∈ gw := gw_t 345 (by decide +kernel) (by decide +kernel)
theorem wd_349 : (Cond.methodLink "NetForms" (238 : Nat) y_Bal_begin) ∈ gw := gw_t 349 (by decide +kernel) (by decide +kernel)
theorem wd_353 : (Cond.methodLink "NetForms$Balance" (18 : Nat) y_Mat_min) ∈ gw := gw_t 353 (by decide +kernel) (by decide +kernel)
theorem wd_354 : (Cond.methodLink "NetForms$Balance" (28 : Nat) y_Arr_fill_JJV) ∈ gw := gw_t 354 (by decide +kernel) (by decide +kernel)
theorem wd_355 : (Cond.methodLink "NetForms" (239 : Nat) y_Nf_addPlateProducts) ∈ gw := gw_t 355 (by decide +kernel) (by decide +kernel)
theorem wd_359 : (Cond.methodLink "NetForms" (248 : Nat) y_Bal_add) ∈ gw := gw_t 359 (by decide +kernel) (by decide +kernel)
theorem wd_363 : (Cond.methodLink "NetForms" (242 : Nat) y_Bal_solve) ∈ gw := gw_t 363 (by decide +kernel) (by decide +kernel)
theorem wd_367 : (Cond.methodLink "NetForms$Balance" (41 : Nat) y_Bal_clear) ∈ gw := gw_t 367 (by decide +kernel) (by decide +kernel)
theorem wd_378 : (Cond.methodLink "NetForms" (150 : Nat) y_Cli_along) ∈ gw := gw_t 378 (by decide +kernel) (by decide +kernel)
theorem wd_382 : (Cond.methodLink "NetForms$Climb" (36 : Nat) y_Cli_join) ∈ gw := gw_t 382 (by decide +kernel) (by decide +kernel)
theorem wd_386 : (Cond.methodLink "NetForms$Climb" (40 : Nat) y_Mat_min) ∈ gw := gw_t 386 (by decide +kernel) (by decide +kernel)
theorem wd_387 : (Cond.methodLink "NetForms" (154 : Nat) y_Cli_aboveLeast) ∈ gw := gw_t 387 (by decide +kernel) (by decide +kernel)
theorem wd_395 : (Cond.constantLong "NetForms" (158 : Nat) (-5 : Int64)) ∈ gw := gw_t 395 (by decide +kernel) (by decide +kernel)
theorem wd_396 : (Cond.methodLink "NetForms" (160 : Nat) y_Nf_slopePart) ∈ gw := gw_t 396 (by decide +kernel) (by decide +kernel)
theorem wd_400 : (Cond.constantLong "NetForms" (258 : Nat) (-1 : Int64)) ∈ gw := gw_t 400 (by decide +kernel) (by decide +kernel)
theorem wd_401 : (Cond.methodLink "NetForms" (260 : Nat) y_Bal_addDue) ∈ gw := gw_t 401 (by decide +kernel) (by decide +kernel)
theorem wd_405 : (Cond.methodLink "NetForms" (192 : Nat) y_Bal_above) ∈ gw := gw_t 405 (by decide +kernel) (by decide +kernel)
theorem wd_409 : (Cond.methodLink "NetForms" (168 : Nat) y_Nf_lowestTerms) ∈ gw := gw_t 409 (by decide +kernel) (by decide +kernel)
theorem wd_412 : (Cond.methodLink "NetForms" (268 : Nat) y_Nf_sharedDivisor) ∈ gw := gw_t 412 (by decide +kernel) (by decide +kernel)
theorem wd_415 : (Cond.methodLink "NetForms" (275 : Nat) y_Mat_abs) ∈ gw := gw_t 415 (by decide +kernel) (by decide +kernel)
theorem wd_418 : (Cond.methodLink "NetForms" (272 : Nat) y_Nf_quotient) ∈ gw := gw_t 418 (by decide +kernel) (by decide +kernel)
theorem wd_419 : (Cond.methodLink "NetForms" (172 : Nat) y_Nf_turnPart) ∈ gw := gw_t 419 (by decide +kernel) (by decide +kernel)
theorem wd_423 : (Cond.methodLink "NetForms" (175 : Nat) y_Nf_stillPart) ∈ gw := gw_t 423 (by decide +kernel) (by decide +kernel)
theorem wd_435 : (Cond.constant "NetForms" (184 : Nat) (-1000000 : Int32)) ∈ gw := gw_t 435 (by decide +kernel) (by decide +kernel)
theorem wd_440 : (Cond.methodLink "NetForms" (185 : Nat) y_Wal_leastWithout) ∈ gw := gw_t 440 (by decide +kernel) (by decide +kernel)
theorem wd_444 : (Cond.methodLink "NetForms$Walls" (28 : Nat) y_Wal_isWalled) ∈ gw := gw_t 444 (by decide +kernel) (by decide +kernel)
theorem wd_452 : (Cond.methodLink "NetForms" (189 : Nat) y_Nf_balanceField) ∈ gw := gw_t 452 (by decide +kernel) (by decide +kernel)
theorem wd_456 : (Cond.methodLink "NetForms" (264 : Nat) y_Nf_balanceAt) ∈ gw := gw_t 456 (by decide +kernel) (by decide +kernel)
theorem wd_464 : (Cond.methodLink "NetForms" (195 : Nat) y_Wav_stepOn) ∈ gw := gw_t 464 (by decide +kernel) (by decide +kernel)
theorem wd_468 : (Cond.methodLink "NetForms" (199 : Nat) y_Wav_stepBack) ∈ gw := gw_t 468 (by decide +kernel) (by decide +kernel)
theorem wd_492 : (Cond.methodLink "NetForms" (211 : Nat) y_Wal_countThere) ∈ gw := gw_t 492 (by decide +kernel) (by decide +kernel)
theorem wd_500 : (Cond.constantLong "NetForms" (214 : Nat) (109 : Int64)) ∈ gw := gw_t 500 (by decide +kernel) (by decide +kernel)
theorem wd_501 : (Cond.constantLong "NetForms" (216 : Nat) (31 : Int64)) ∈ gw := gw_t 501 (by decide +kernel) (by decide +kernel)
theorem wd_502 : (Cond.methodLink "NetForms" (218 : Nat) y_Nf_count) ∈ gw := gw_t 502 (by decide +kernel) (by decide +kernel)
theorem wd_503 : (Cond.methodLink "NetForms" (221 : Nat) y_Nf_foldCorners) ∈ gw := gw_t 503 (by decide +kernel) (by decide +kernel)
theorem wd_507 : (Cond.methodLink "NetForms" (225 : Nat) y_Nf_foldForms) ∈ gw := gw_t 507 (by decide +kernel) (by decide +kernel)
theorem wd_511 : (Cond.methodLink "NetForms" (229 : Nat) y_Nf_foldWalls) ∈ gw := gw_t 511 (by decide +kernel) (by decide +kernel)
theorem wd_521 : (Cond.fieldLink "NetFormsModel" (7 : Nat) "NetFormsModel" "points" "I") ∈ gw := gw_t 521 (by decide +kernel) (by decide +kernel)
theorem wd_522 : (Cond.fieldLink "NetFormsModel" (79 : Nat) "NetFormsModel" "edges" "I") ∈ gw := gw_t 522 (by decide +kernel) (by decide +kernel)
theorem wd_523 : (Cond.fieldLink "NetFormsModel" (82 : Nat) "NetFormsModel" "faces" "I") ∈ gw := gw_t 523 (by decide +kernel) (by decide +kernel)
theorem wd_524 : (Cond.fieldLink "NetFormsModel" (13 : Nat) "NetFormsModel" "begin" "[I") ∈ gw := gw_t 524 (by decide +kernel) (by decide +kernel)
theorem wd_525 : (Cond.fieldLink "NetFormsModel" (17 : Nat) "NetFormsModel" "end" "[I") ∈ gw := gw_t 525 (by decide +kernel) (by decide +kernel)
theorem wd_526 : (Cond.fieldLink "NetFormsModel" (20 : Nat) "NetFormsModel" "first" "[I") ∈ gw := gw_t 526 (by decide +kernel) (by decide +kernel)
theorem wd_527 : (Cond.fieldLink "NetFormsModel" (23 : Nat) "NetFormsModel" "second" "[I") ∈ gw := gw_t 527 (by decide +kernel) (by decide +kernel)
theorem wd_528 : (Cond.fieldLink "NetFormsModel" (26 : Nat) "NetFormsModel" "third" "[I") ∈ gw := gw_t 528 (by decide +kernel) (by decide +kernel)
theorem wd_529 : (Cond.fieldLink "NetFormsModel" (29 : Nat) "NetFormsModel" "degree" "[I") ∈ gw := gw_t 529 (by decide +kernel) (by decide +kernel)
theorem wd_530 : (Cond.fieldLink "NetFormsModel" (32 : Nat) "NetFormsModel" "number" "[I") ∈ gw := gw_t 530 (by decide +kernel) (by decide +kernel)
theorem wd_531 : (Cond.fieldLink "NetFormsModel" (35 : Nat) "NetFormsModel" "isWall" "[Z") ∈ gw := gw_t 531 (by decide +kernel) (by decide +kernel)
theorem wd_532 : (Cond.fieldLink "NetFormsModel" (39 : Nat) "NetFormsModel" "wall" "[I") ∈ gw := gw_t 532 (by decide +kernel) (by decide +kernel)
theorem wd_533 : (Cond.fieldLink "NetFormsModel" (42 : Nat) "NetFormsModel" "height" "[J") ∈ gw := gw_t 533 (by decide +kernel) (by decide +kernel)
theorem wd_534 : (Cond.fieldLink "NetFormsModel" (46 : Nat) "NetFormsModel" "flow" "[J") ∈ gw := gw_t 534 (by decide +kernel) (by decide +kernel)
theorem wd_535 : (Cond.fieldLink "NetFormsModel" (85 : Nat) "NetFormsModel" "steps" "I") ∈ gw := gw_t 535 (by decide +kernel) (by decide +kernel)
theorem wd_536 : (Cond.fieldLink "NetFormsModel" (49 : Nat) "NetFormsModel" "made" "[J") ∈ gw := gw_t 536 (by decide +kernel) (by decide +kernel)
theorem wd_537 : (Cond.fieldLink "NetFormsModel" (52 : Nat) "NetFormsModel" "table" "[J") ∈ gw := gw_t 537 (by decide +kernel) (by decide +kernel)
theorem wd_538 : (Cond.fieldLink "NetFormsModel" (55 : Nat) "NetFormsModel" "placeOf" "[I") ∈ gw := gw_t 538 (by decide +kernel) (by decide +kernel)
theorem wd_539 : (Cond.fieldLink "NetFormsModel" (150 : Nat) "NetFormsModel" "shared" "J") ∈ gw := gw_t 539 (by decide +kernel) (by decide +kernel)
theorem wd_540 : (Cond.fieldLink "NetFormsModel" (58 : Nat) "NetFormsModel" "solved" "[J") ∈ gw := gw_t 540 (by decide +kernel) (by decide +kernel)
theorem wd_541 : (Cond.fieldLink "NetFormsModel" (61 : Nat) "NetFormsModel" "partOf" "[I") ∈ gw := gw_t 541 (by decide +kernel) (by decide +kernel)
theorem wd_542 : (Cond.fieldLink "NetFormsModel" (64 : Nat) "NetFormsModel" "raised" "[J") ∈ gw := gw_t 542 (by decide +kernel) (by decide +kernel)
theorem wd_543 : (Cond.fieldLink "NetFormsModel" (67 : Nat) "NetFormsModel" "slopePart" "[J") ∈ gw := gw_t 543 (by decide +kernel) (by decide +kernel)
theorem wd_544 : (Cond.fieldLink "NetFormsModel" (70 : Nat) "NetFormsModel" "rimPart" "[J") ∈ gw := gw_t 544 (by decide +kernel) (by decide +kernel)
theorem wd_545 : (Cond.fieldLink "NetFormsModel" (183 : Nat) "NetFormsModel" "slopeShared" "J") ∈ gw := gw_t 545 (by decide +kernel) (by decide +kernel)
theorem wd_546 : (Cond.fieldLink "NetFormsModel" (189 : Nat) "NetFormsModel" "rimShared" "J") ∈ gw := gw_t 546 (by decide +kernel) (by decide +kernel)
theorem wd_604 : (Cond.constantLong "NetFormsModel" (73 : Nat) (6 : Int64)) ∈ gw := gw_t 604 (by decide +kernel) (by decide +kernel)
theorem wd_605 : (Cond.methodLink "NetFormsModel" (75 : Nat) y_Mo_in) ∈ gw := gw_t 605 (by decide +kernel) (by decide +kernel)
theorem wd_608 : (Cond.methodLink "NetFormsModel" (88 : Nat) y_Mo_clears) ∈ gw := gw_t 608 (by decide +kernel) (by decide +kernel)
theorem wd_616 : (Cond.methodLink "NetFormsModel" (92 : Nat) y_Mo_isPoint) ∈ gw := gw_t 616 (by decide +kernel) (by decide +kernel)
theorem wd_620 : (Cond.methodLink "NetFormsModel" (96 : Nat) y_Mo_edgeOf) ∈ gw := gw_t 620 (by decide +kernel) (by decide +kernel)
theorem wd_636 : (Cond.methodLink "NetFormsModel" (102 : Nat) y_Mo_isForm) ∈ gw := gw_t 636 (by decide +kernel) (by decide +kernel)
theorem wd_639 : (Cond.constantLong "NetFormsModel" (100 : Nat) (11 : Int64)) ∈ gw := gw_t 639 (by decide +kernel) (by decide +kernel)
theorem wd_640 : (Cond.constantLong "NetFormsModel" (105 : Nat) (2 : Int64)) ∈ gw := gw_t 640 (by decide +kernel) (by decide +kernel)
theorem wd_645 : (Cond.methodLink "NetFormsModel" (111 : Nat) y_Mo_isThere) ∈ gw := gw_t 645 (by decide +kernel) (by decide +kernel)
theorem wd_649 : (Cond.methodLink "NetFormsModel" (107 : Nat) y_Mo_size) ∈ gw := gw_t 649 (by decide +kernel) (by decide +kernel)
theorem wd_653 : (Cond.constantLong "NetFormsModel" (115 : Nat) (-1000000 : Int64)) ∈ gw := gw_t 653 (by decide +kernel) (by decide +kernel)
theorem wd_654 : (Cond.constantLong "NetFormsModel" (117 : Nat) (1000000 : Int64)) ∈ gw := gw_t 654 (by decide +kernel) (by decide +kernel)
theorem wd_655 : (Cond.constant "NetFormsModel" (119 : Nat) (-2000000 : Int32)) ∈ gw := gw_t 655 (by decide +kernel) (by decide +kernel)
theorem wd_664 : (Cond.methodLink "NetFormsModel" (128 : Nat) y_Mo_makeSlope) ∈ gw := gw_t 664 (by decide +kernel) (by decide +kernel)
theorem wd_668 : (Cond.methodLink "NetFormsModel" (120 : Nat) y_Mo_at) ∈ gw := gw_t 668 (by decide +kernel) (by decide +kernel)
theorem wd_672 : (Cond.methodLink "NetFormsModel" (124 : Nat) y_Mo_onEdge) ∈ gw := gw_t 672 (by decide +kernel) (by decide +kernel)
theorem wd_676 : (Cond.methodLink "NetFormsModel" (132 : Nat) y_Mo_becomes) ∈ gw := gw_t 676 (by decide +kernel) (by decide +kernel)
theorem wd_684 : (Cond.methodLink "NetFormsModel" (135 : Nat) y_Mo_makeRim) ∈ gw := gw_t 684 (by decide +kernel) (by decide +kernel)
theorem wd_692 : (Cond.methodLink "NetFormsModel" (138 : Nat) y_Mo_cupAt) ∈ gw := gw_t 692 (by decide +kernel) (by decide +kernel)
theorem wd_700 : (Cond.constantLong "NetFormsModel" (141 : Nat) (-1000 : Int64)) ∈ gw := gw_t 700 (by decide +kernel) (by decide +kernel)
theorem wd_701 : (Cond.constantLong "NetFormsModel" (143 : Nat) (1000 : Int64)) ∈ gw := gw_t 701 (by decide +kernel) (by decide +kernel)
theorem wd_706 : (Cond.constantLong "NetFormsModel" (145 : Nat) (3 : Int64)) ∈ gw := gw_t 706 (by decide +kernel) (by decide +kernel)
theorem wd_707 : (Cond.methodLink "NetFormsModel" (147 : Nat) y_Mo_isNought) ∈ gw := gw_t 707 (by decide +kernel) (by decide +kernel)
theorem wd_715 : (Cond.methodLink "NetFormsModel" (162 : Nat) y_Mo_parts) ∈ gw := gw_t 715 (by decide +kernel) (by decide +kernel)
theorem wd_719 : (Cond.methodLink "NetFormsModel" (177 : Nat) y_Mo_joins) ∈ gw := gw_t 719 (by decide +kernel) (by decide +kernel)
theorem wd_723 : (Cond.methodLink "NetFormsModel" (171 : Nat) y_Mo_slopeRank) ∈ gw := gw_t 723 (by decide +kernel) (by decide +kernel)
theorem wd_727 : (Cond.methodLink "NetFormsModel" (174 : Nat) y_Mo_turnRank) ∈ gw := gw_t 727 (by decide +kernel) (by decide +kernel)
theorem wd_731 : (Cond.methodLink "NetFormsModel" (166 : Nat) y_Mo_empties) ∈ gw := gw_t 731 (by decide +kernel) (by decide +kernel)
theorem wd_735 : (Cond.constantLong "NetFormsModel" (169 : Nat) (-1 : Int64)) ∈ gw := gw_t 735 (by decide +kernel) (by decide +kernel)
theorem wd_736 : (Cond.methodLink "NetFormsModel" (158 : Nat) y_Mo_turns) ∈ gw := gw_t 736 (by decide +kernel) (by decide +kernel)
theorem wd_740 : (Cond.methodLink "NetFormsModel" (154 : Nat) y_Mo_turn) ∈ gw := gw_t 740 (by decide +kernel) (by decide +kernel)
theorem wd_752 : (Cond.constantLong "NetFormsModel" (196 : Nat) (-5 : Int64)) ∈ gw := gw_t 752 (by decide +kernel) (by decide +kernel)
theorem wd_753 : (Cond.methodLink "NetFormsModel" (198 : Nat) y_Mo_splits) ∈ gw := gw_t 753 (by decide +kernel) (by decide +kernel)
theorem wd_757 : (Cond.methodLink "NetFormsModel" (180 : Nat) y_Mo_solves) ∈ gw := gw_t 757 (by decide +kernel) (by decide +kernel)
theorem wd_761 : (Cond.methodLink "NetFormsModel" (186 : Nat) y_Mo_sideOf) ∈ gw := gw_t 761 (by decide +kernel) (by decide +kernel)
theorem wd_765 : (Cond.methodLink "NetFormsModel" (201 : Nat) y_Mo_lowest) ∈ gw := gw_t 765 (by decide +kernel) (by decide +kernel)
theorem wd_768 : (Cond.methodLink "NetFormsModel" (192 : Nat) y_Mo_divisor) ∈ gw := gw_t 768 (by decide +kernel) (by decide +kernel)
theorem wd_779 : (Cond.constant "NetFormsModel" (205 : Nat) (-1000000 : Int32)) ∈ gw := gw_t 779 (by decide +kernel) (by decide +kernel)
theorem wd_784 : (Cond.methodLink "NetFormsModel" (206 : Nat) y_Mo_forbids) ∈ gw := gw_t 784 (by decide +kernel) (by decide +kernel)
theorem wd_796 : (Cond.constantLong "NetFormsModel" (209 : Nat) (-100 : Int64)) ∈ gw := gw_t 796 (by decide +kernel) (by decide +kernel)
theorem wd_797 : (Cond.constantLong "NetFormsModel" (211 : Nat) (100 : Int64)) ∈ gw := gw_t 797 (by decide +kernel) (by decide +kernel)
theorem wd_798 : (Cond.methodLink "NetFormsModel" (213 : Nat) y_Mo_flows) ∈ gw := gw_t 798 (by decide +kernel) (by decide +kernel)
theorem wd_802 : (Cond.methodLink "NetFormsModel" (217 : Nat) y_Mo_rises) ∈ gw := gw_t 802 (by decide +kernel) (by decide +kernel)
theorem wd_830 : (Cond.constantLong "NetFormsModel" (220 : Nat) (109 : Int64)) ∈ gw := gw_t 830 (by decide +kernel) (by decide +kernel)
theorem wd_831 : (Cond.constantLong "NetFormsModel" (222 : Nat) (31 : Int64)) ∈ gw := gw_t 831 (by decide +kernel) (by decide +kernel)
theorem wd_832 : (Cond.methodLink "NetFormsModel" (224 : Nat) y_Mo_count) ∈ gw := gw_t 832 (by decide +kernel) (by decide +kernel)
theorem ne_324 : ("NetForms$Form", 25, y_Nf_isWithin, "NetForms") ∈ nestW := by decide +kernel
theorem ne_371 : ("NetForms$Balance", 45, y_Nf_quotient, "NetForms") ∈ nestW := by decide +kernel
set_option maxRecDepth 20000 in
theorem v_Net_begin : Yw y_Net_begin b_Net_begin 3 (none) 1 := ⟨gw_t 162 rfl rfl, gw_t 2 (by decide +kernel) (by decide +kernel), by decide +kernel, by decide⟩
theorem i_Net_begin : Cond.instanceMethod y_Net_begin ∈ gw := gw_t 160 (by decide +kernel) (by decide +kernel)
theorem z_Net_begin : Cond.selects y_Net_begin.cls y_Net_begin y_Net_begin ∈ gw := gw_t 161 (by decide +kernel) (by decide +kernel)
set_option maxRecDepth 20000 in
theorem v_Arr_fill_IIV : Yw y_Arr_fill_IIV b_Arr_fill_IIV 4 (none) 2 := ⟨gw_t 195 rfl rfl, gw_t 9 (by decide +kernel) (by decide +kernel), by decide +kernel, by decide⟩
theorem z_Arr_fill_IIV : Cond.static y_Arr_fill_IIV ∈ gw := gw_t 194 (by decide +kernel) (by decide +kernel)
set_option maxRecDepth 20000 in
theorem v_Wal_begin : Yw y_Wal_begin b_Wal_begin 2 (none) 0 := ⟨gw_t 199 rfl rfl, gw_t 3 (by decide +kernel) (by decide +kernel), by decide +kernel, by decide⟩
theorem i_Wal_begin : Cond.instanceMethod y_Wal_begin ∈ gw := gw_t 197 (by decide +kernel) (by decide +kernel)
theorem z_Wal_begin : Cond.selects y_Wal_begin.cls y_Wal_begin y_Wal_begin ∈ gw := gw_t 198 (by decide +kernel) (by decide +kernel)
set_option maxRecDepth 20000 in
theorem v_Arr_fill_JJV : Yw y_Arr_fill_JJV b_Arr_fill_JJV 5 (none) 2 := ⟨gw_t 206 rfl rfl, gw_t 9 (by decide +kernel) (by decide +kernel), by decide +kernel, by decide⟩
theorem z_Arr_fill_JJV : Cond.static y_Arr_fill_JJV ∈ gw := gw_t 205 (by decide +kernel) (by decide +kernel)
set_option maxRecDepth 20000 in
theorem v_Net_size : Yw y_Net_size b_Net_size 2 (some .int) 1 := ⟨gw_t 218 rfl rfl, gw_t 2 (by decide +kernel) (by decide +kernel), by decide +kernel, by decide⟩
theorem i_Net_size : Cond.instanceMethod y_Net_size ∈ gw := gw_t 216 (by decide +kernel) (by decide +kernel)
theorem z_Net_size : Cond.selects y_Net_size.cls y_Net_size y_Net_size ∈ gw := gw_t 217 (by decide +kernel) (by decide +kernel)
set_option maxRecDepth 20000 in
theorem v_Net_edgeBetween : Yw y_Net_edgeBetween b_Net_edgeBetween 4 (some .int) 2 := ⟨gw_t 222 rfl rfl, gw_t 2 (by decide +kernel) (by decide +kernel), by decide +kernel, by decide⟩
theorem i_Net_edgeBetween : Cond.instanceMethod y_Net_edgeBetween ∈ gw := gw_t 220 (by decide +kernel) (by decide +kernel)
theorem z_Net_edgeBetween : Cond.selects y_Net_edgeBetween.cls y_Net_edgeBetween y_Net_edgeBetween ∈ gw := gw_t 221 (by decide +kernel) (by decide +kernel)
set_option maxRecDepth 20000 in
theorem v_Net_hasPlateOf : Yw y_Net_hasPlateOf b_Net_hasPlateOf 4 (some .boolean) 2 := ⟨gw_t 240 rfl rfl, gw_t 2 (by decide +kernel) (by decide +kernel), by decide +kernel, by decide⟩
theorem i_Net_hasPlateOf : Cond.instanceMethod y_Net_hasPlateOf ∈ gw := gw_t 238 (by decide +kernel) (by decide +kernel)
theorem z_Net_hasPlateOf : Cond.selects y_Net_hasPlateOf.cls y_Net_hasPlateOf y_Net_hasPlateOf ∈ gw := gw_t 239 (by decide +kernel) (by decide +kernel)
set_option maxRecDepth 20000 in
theorem v_Net_addPlate : Yw y_Net_addPlate b_Net_addPlate 4 (some .int) 3 := ⟨gw_t 244 rfl rfl, gw_t 2 (by decide +kernel) (by decide +kernel), by decide +kernel, by decide⟩
theorem i_Net_addPlate : Cond.instanceMethod y_Net_addPlate ∈ gw := gw_t 242 (by decide +kernel) (by decide +kernel)
theorem z_Net_addPlate : Cond.selects y_Net_addPlate.cls y_Net_addPlate y_Net_addPlate ∈ gw := gw_t 243 (by decide +kernel) (by decide +kernel)
set_option maxRecDepth 20000 in
theorem v_Net_pointOf : Yw y_Net_pointOf b_Net_pointOf 5 (some .int) 3 := ⟨gw_t 252 rfl rfl, gw_t 2 (by decide +kernel) (by decide +kernel), by decide +kernel, by decide⟩
theorem i_Net_pointOf : Cond.instanceMethod y_Net_pointOf ∈ gw := gw_t 250 (by decide +kernel) (by decide +kernel)
theorem z_Net_pointOf : Cond.selects y_Net_pointOf.cls y_Net_pointOf y_Net_pointOf ∈ gw := gw_t 251 (by decide +kernel) (by decide +kernel)
set_option maxRecDepth 20000 in
theorem v_Nf_formAt : Yw y_Nf_formAt b_Nf_formAt 2 (some (.object "NetForms$Form")) 1 := ⟨gw_t 260 rfl rfl, gw_t 1 (by decide +kernel) (by decide +kernel), by decide +kernel, by decide⟩
theorem i_Nf_formAt : Cond.instanceMethod y_Nf_formAt ∈ gw := gw_t 259 (by decide +kernel) (by decide +kernel)
theorem z_Nf_formAt : Cond.selects y_Nf_formAt.cls y_Nf_formAt y_Nf_formAt ∈ gw := gw_s 0 (by decide +kernel) (by decide +kernel)
set_option maxRecDepth 20000 in
theorem v_Nf_isWithin : Yw y_Nf_isWithin b_Nf_isWithin 3 (some .boolean) 2 := ⟨gw_t 268 rfl rfl, gw_t 1 (by decide +kernel) (by decide +kernel), by decide +kernel, by decide⟩
theorem z_Nf_isWithin : Cond.static y_Nf_isWithin ∈ gw := gw_t 267 (by decide +kernel) (by decide +kernel)
set_option maxRecDepth 20000 in
theorem v_Net_signOf : Yw y_Net_signOf b_Net_signOf 4 (some .int) 3 := ⟨gw_t 286 rfl rfl, gw_t 2 (by decide +kernel) (by decide +kernel), by decide +kernel, by decide⟩
theorem i_Net_signOf : Cond.instanceMethod y_Net_signOf ∈ gw := gw_t 284 (by decide +kernel) (by decide +kernel)
theorem z_Net_signOf : Cond.selects y_Net_signOf.cls y_Net_signOf y_Net_signOf ∈ gw := gw_t 285 (by decide +kernel) (by decide +kernel)
set_option maxRecDepth 20000 in
theorem v_Nf_isMadeZero : Yw y_Nf_isMadeZero b_Nf_isMadeZero 3 (some .boolean) 1 := ⟨gw_t 332 rfl rfl, gw_t 1 (by decide +kernel) (by decide +kernel), by decide +kernel, by decide⟩
theorem i_Nf_isMadeZero : Cond.instanceMethod y_Nf_isMadeZero ∈ gw := gw_t 331 (by decide +kernel) (by decide +kernel)
theorem z_Nf_isMadeZero : Cond.selects y_Nf_isMadeZero.cls y_Nf_isMadeZero y_Nf_isMadeZero ∈ gw := gw_s 5 (by decide +kernel) (by decide +kernel)
set_option maxRecDepth 20000 in
theorem v_Net_countParts : Yw y_Net_countParts b_Net_countParts 3 (some .int) 0 := ⟨gw_t 344 rfl rfl, gw_t 2 (by decide +kernel) (by decide +kernel), by decide +kernel, by decide⟩
theorem i_Net_countParts : Cond.instanceMethod y_Net_countParts ∈ gw := gw_t 342 (by decide +kernel) (by decide +kernel)
theorem z_Net_countParts : Cond.selects y_Net_countParts.cls y_Net_countParts y_Net_countParts ∈ gw := gw_t 343 (by decide +kernel) (by decide +kernel)
set_option maxRecDepth 20000 in
theorem v_Bal_add : Yw y_Bal_add b_Bal_add 5 (none) 3 := ⟨gw_t 362 rfl rfl, gw_t 5 (by decide +kernel) (by decide +kernel), by decide +kernel, by decide⟩
theorem i_Bal_add : Cond.instanceMethod y_Bal_add ∈ gw := gw_t 360 (by decide +kernel) (by decide +kernel)
theorem z_Bal_add : Cond.selects y_Bal_add.cls y_Bal_add y_Bal_add ∈ gw := gw_t 361 (by decide +kernel) (by decide +kernel)
set_option maxRecDepth 20000 in
theorem v_Nf_quotient : Yw y_Nf_quotient b_Nf_quotient 4 (some .long) 2 := ⟨gw_t 373 rfl rfl, gw_t 1 (by decide +kernel) (by decide +kernel), by decide +kernel, by decide⟩
theorem z_Nf_quotient : Cond.static y_Nf_quotient ∈ gw := gw_t 372 (by decide +kernel) (by decide +kernel)
set_option maxRecDepth 20000 in
theorem v_Cli_aboveLeast : Yw y_Cli_aboveLeast b_Cli_aboveLeast 2 (some .long) 1 := ⟨gw_t 390 rfl rfl, gw_t 6 (by decide +kernel) (by decide +kernel), by decide +kernel, by decide⟩
theorem i_Cli_aboveLeast : Cond.instanceMethod y_Cli_aboveLeast ∈ gw := gw_t 388 (by decide +kernel) (by decide +kernel)
theorem z_Cli_aboveLeast : Cond.selects y_Cli_aboveLeast.cls y_Cli_aboveLeast y_Cli_aboveLeast ∈ gw := gw_t 389 (by decide +kernel) (by decide +kernel)
set_option maxRecDepth 20000 in
theorem v_Bal_addDue : Yw y_Bal_addDue b_Bal_addDue 4 (none) 2 := ⟨gw_t 404 rfl rfl, gw_t 5 (by decide +kernel) (by decide +kernel), by decide +kernel, by decide⟩
theorem i_Bal_addDue : Cond.instanceMethod y_Bal_addDue ∈ gw := gw_t 402 (by decide +kernel) (by decide +kernel)
theorem z_Bal_addDue : Cond.selects y_Bal_addDue.cls y_Bal_addDue y_Bal_addDue ∈ gw := gw_t 403 (by decide +kernel) (by decide +kernel)
set_option maxRecDepth 20000 in
theorem v_Bal_above : Yw y_Bal_above b_Bal_above 2 (some .long) 1 := ⟨gw_t 408 rfl rfl, gw_t 5 (by decide +kernel) (by decide +kernel), by decide +kernel, by decide⟩
theorem i_Bal_above : Cond.instanceMethod y_Bal_above ∈ gw := gw_t 406 (by decide +kernel) (by decide +kernel)
theorem z_Bal_above : Cond.selects y_Bal_above.cls y_Bal_above y_Bal_above ∈ gw := gw_t 407 (by decide +kernel) (by decide +kernel)
set_option maxRecDepth 20000 in
theorem v_Wal_isWalled : Yw y_Wal_isWalled b_Wal_isWalled 4 (some .boolean) 2 := ⟨gw_t 447 rfl rfl, gw_t 3 (by decide +kernel) (by decide +kernel), by decide +kernel, by decide⟩
theorem i_Wal_isWalled : Cond.instanceMethod y_Wal_isWalled ∈ gw := gw_t 446 (by decide +kernel) (by decide +kernel)
theorem z_Wal_isWalled : Cond.selects y_Wal_isWalled.cls y_Wal_isWalled y_Wal_isWalled ∈ gw := gw_s 14 (by decide +kernel) (by decide +kernel)
set_option maxRecDepth 20000 in
theorem v_Wav_stepOn : Yw y_Wav_stepOn b_Wav_stepOn 3 (none) 1 := ⟨gw_t 467 rfl rfl, gw_t 4 (by decide +kernel) (by decide +kernel), by decide +kernel, by decide⟩
theorem i_Wav_stepOn : Cond.instanceMethod y_Wav_stepOn ∈ gw := gw_t 465 (by decide +kernel) (by decide +kernel)
theorem z_Wav_stepOn : Cond.selects y_Wav_stepOn.cls y_Wav_stepOn y_Wav_stepOn ∈ gw := gw_t 466 (by decide +kernel) (by decide +kernel)
set_option maxRecDepth 20000 in
theorem v_Wav_stepBack : Yw y_Wav_stepBack b_Wav_stepBack 3 (none) 1 := ⟨gw_t 471 rfl rfl, gw_t 4 (by decide +kernel) (by decide +kernel), by decide +kernel, by decide⟩
theorem i_Wav_stepBack : Cond.instanceMethod y_Wav_stepBack ∈ gw := gw_t 469 (by decide +kernel) (by decide +kernel)
theorem z_Wav_stepBack : Cond.selects y_Wav_stepBack.cls y_Wav_stepBack y_Wav_stepBack ∈ gw := gw_t 470 (by decide +kernel) (by decide +kernel)
set_option maxRecDepth 20000 in
theorem v_Nf_sum : Yw y_Nf_sum b_Nf_sum 4 (some .long) 0 := ⟨gw_t 487 rfl rfl, gw_t 1 (by decide +kernel) (by decide +kernel), by decide +kernel, by decide⟩
theorem i_Nf_sum : Cond.instanceMethod y_Nf_sum ∈ gw := gw_t 485 (by decide +kernel) (by decide +kernel)
theorem z_Nf_sum : Cond.selects y_Nf_sum.cls y_Nf_sum y_Nf_sum ∈ gw := gw_t 486 (by decide +kernel) (by decide +kernel)
set_option maxRecDepth 20000 in
theorem v_Wal_countThere : Yw y_Wal_countThere b_Wal_countThere 4 (some .int) 1 := ⟨gw_t 495 rfl rfl, gw_t 3 (by decide +kernel) (by decide +kernel), by decide +kernel, by decide⟩
theorem i_Wal_countThere : Cond.instanceMethod y_Wal_countThere ∈ gw := gw_t 493 (by decide +kernel) (by decide +kernel)
theorem z_Wal_countThere : Cond.selects y_Wal_countThere.cls y_Wal_countThere y_Wal_countThere ∈ gw := gw_t 494 (by decide +kernel) (by decide +kernel)
set_option maxRecDepth 20000 in
theorem v_Nf_foldWalls : Yw y_Nf_foldWalls b_Nf_foldWalls 6 (some .long) 1 := ⟨gw_t 514 rfl rfl, gw_t 1 (by decide +kernel) (by decide +kernel), by decide +kernel, by decide⟩
theorem i_Nf_foldWalls : Cond.instanceMethod y_Nf_foldWalls ∈ gw := gw_t 513 (by decide +kernel) (by decide +kernel)
theorem z_Nf_foldWalls : Cond.selects y_Nf_foldWalls.cls y_Nf_foldWalls y_Nf_foldWalls ∈ gw := gw_s 19 (by decide +kernel) (by decide +kernel)
set_option maxRecDepth 20000 in
theorem v_Mo_in : Yw y_Mo_in b_Mo_in 6 (some .boolean) 3 := ⟨gw_t 607 rfl rfl, gw_t 8 (by decide +kernel) (by decide +kernel), by decide +kernel, by decide⟩
theorem z_Mo_in : Cond.static y_Mo_in ∈ gw := gw_t 606 (by decide +kernel) (by decide +kernel)
set_option maxRecDepth 20000 in
theorem v_Mo_clears : Yw y_Mo_clears b_Mo_clears 4 (none) 2 := ⟨gw_t 611 rfl rfl, gw_t 8 (by decide +kernel) (by decide +kernel), by decide +kernel, by decide⟩
theorem i_Mo_clears : Cond.instanceMethod y_Mo_clears ∈ gw := gw_t 610 (by decide +kernel) (by decide +kernel)
theorem z_Mo_clears : Cond.selects y_Mo_clears.cls y_Mo_clears y_Mo_clears ∈ gw := gw_s 20 (by decide +kernel) (by decide +kernel)
set_option maxRecDepth 20000 in
theorem v_Mo_edgeOf : Yw y_Mo_edgeOf b_Mo_edgeOf 4 (some .int) 2 := ⟨gw_t 623 rfl rfl, gw_t 8 (by decide +kernel) (by decide +kernel), by decide +kernel, by decide⟩
theorem i_Mo_edgeOf : Cond.instanceMethod y_Mo_edgeOf ∈ gw := gw_t 622 (by decide +kernel) (by decide +kernel)
theorem z_Mo_edgeOf : Cond.selects y_Mo_edgeOf.cls y_Mo_edgeOf y_Mo_edgeOf ∈ gw := gw_s 22 (by decide +kernel) (by decide +kernel)
set_option maxRecDepth 20000 in
theorem v_Mo_size : Yw y_Mo_size b_Mo_size 2 (some .int) 1 := ⟨gw_t 652 rfl rfl, gw_t 8 (by decide +kernel) (by decide +kernel), by decide +kernel, by decide⟩
theorem i_Mo_size : Cond.instanceMethod y_Mo_size ∈ gw := gw_t 651 (by decide +kernel) (by decide +kernel)
theorem z_Mo_size : Cond.selects y_Mo_size.cls y_Mo_size y_Mo_size ∈ gw := gw_s 24 (by decide +kernel) (by decide +kernel)
set_option maxRecDepth 20000 in
theorem v_Mo_at : Yw y_Mo_at b_Mo_at 3 (some .long) 2 := ⟨gw_t 671 rfl rfl, gw_t 8 (by decide +kernel) (by decide +kernel), by decide +kernel, by decide⟩
theorem i_Mo_at : Cond.instanceMethod y_Mo_at ∈ gw := gw_t 670 (by decide +kernel) (by decide +kernel)
theorem z_Mo_at : Cond.selects y_Mo_at.cls y_Mo_at y_Mo_at ∈ gw := gw_s 26 (by decide +kernel) (by decide +kernel)
set_option maxRecDepth 20000 in
theorem v_Mo_joins : Yw y_Mo_joins b_Mo_joins 6 (none) 2 := ⟨gw_t 722 rfl rfl, gw_t 8 (by decide +kernel) (by decide +kernel), by decide +kernel, by decide⟩
theorem i_Mo_joins : Cond.instanceMethod y_Mo_joins ∈ gw := gw_t 721 (by decide +kernel) (by decide +kernel)
theorem z_Mo_joins : Cond.selects y_Mo_joins.cls y_Mo_joins y_Mo_joins ∈ gw := gw_s 33 (by decide +kernel) (by decide +kernel)
set_option maxRecDepth 20000 in
theorem v_Mo_empties : Yw y_Mo_empties b_Mo_empties 2 (none) 0 := ⟨gw_t 734 rfl rfl, gw_t 8 (by decide +kernel) (by decide +kernel), by decide +kernel, by decide⟩
theorem i_Mo_empties : Cond.instanceMethod y_Mo_empties ∈ gw := gw_t 733 (by decide +kernel) (by decide +kernel)
theorem z_Mo_empties : Cond.selects y_Mo_empties.cls y_Mo_empties y_Mo_empties ∈ gw := gw_s 36 (by decide +kernel) (by decide +kernel)
set_option maxRecDepth 20000 in
theorem v_Mo_turn : Yw y_Mo_turn b_Mo_turn 11 (none) 4 := ⟨gw_t 743 rfl rfl, gw_t 8 (by decide +kernel) (by decide +kernel), by decide +kernel, by decide⟩
theorem i_Mo_turn : Cond.instanceMethod y_Mo_turn ∈ gw := gw_t 742 (by decide +kernel) (by decide +kernel)
theorem z_Mo_turn : Cond.selects y_Mo_turn.cls y_Mo_turn y_Mo_turn ∈ gw := gw_s 38 (by decide +kernel) (by decide +kernel)
set_option maxRecDepth 20000 in
theorem v_Mo_sideOf : Yw y_Mo_sideOf b_Mo_sideOf 5 (some .long) 2 := ⟨gw_t 764 rfl rfl, gw_t 8 (by decide +kernel) (by decide +kernel), by decide +kernel, by decide⟩
theorem i_Mo_sideOf : Cond.instanceMethod y_Mo_sideOf ∈ gw := gw_t 763 (by decide +kernel) (by decide +kernel)
theorem z_Mo_sideOf : Cond.selects y_Mo_sideOf.cls y_Mo_sideOf y_Mo_sideOf ∈ gw := gw_s 41 (by decide +kernel) (by decide +kernel)
set_option maxRecDepth 20000 in
theorem v_Mo_divisor : Yw y_Mo_divisor b_Mo_divisor 10 (some .long) 2 := ⟨gw_t 770 rfl rfl, gw_t 8 (by decide +kernel) (by decide +kernel), by decide +kernel, by decide⟩
theorem z_Mo_divisor : Cond.static y_Mo_divisor ∈ gw := gw_t 769 (by decide +kernel) (by decide +kernel)
set_option maxRecDepth 20000 in
theorem v_Mo_flows : Yw y_Mo_flows b_Mo_flows 4 (none) 1 := ⟨gw_t 801 rfl rfl, gw_t 8 (by decide +kernel) (by decide +kernel), by decide +kernel, by decide⟩
theorem i_Mo_flows : Cond.instanceMethod y_Mo_flows ∈ gw := gw_t 800 (by decide +kernel) (by decide +kernel)
theorem z_Mo_flows : Cond.selects y_Mo_flows.cls y_Mo_flows y_Mo_flows ∈ gw := gw_s 43 (by decide +kernel) (by decide +kernel)
set_option maxRecDepth 20000 in
theorem v_Mo_rises : Yw y_Mo_rises b_Mo_rises 4 (none) 1 := ⟨gw_t 805 rfl rfl, gw_t 8 (by decide +kernel) (by decide +kernel), by decide +kernel, by decide⟩
theorem i_Mo_rises : Cond.instanceMethod y_Mo_rises ∈ gw := gw_t 804 (by decide +kernel) (by decide +kernel)
theorem z_Mo_rises : Cond.selects y_Mo_rises.cls y_Mo_rises y_Mo_rises ∈ gw := gw_s 44 (by decide +kernel) (by decide +kernel)
set_option maxRecDepth 20000 in
theorem v_Mo_sum : Yw y_Mo_sum b_Mo_sum 4 (some .long) 0 := ⟨gw_t 821 rfl rfl, gw_t 8 (by decide +kernel) (by decide +kernel), by decide +kernel, by decide⟩
theorem i_Mo_sum : Cond.instanceMethod y_Mo_sum ∈ gw := gw_t 819 (by decide +kernel) (by decide +kernel)
theorem z_Mo_sum : Cond.selects y_Mo_sum.cls y_Mo_sum y_Mo_sum ∈ gw := gw_t 820 (by decide +kernel) (by decide +kernel)
set_option maxRecDepth 20000 in
theorem v_Frm_begin : Yw y_Frm_begin b_Frm_begin 2 (none) 1 := ⟨gw_t 192 rfl rfl, gw_t 7 (by decide +kernel) (by decide +kernel), by decide +kernel, by decide⟩
theorem i_Frm_begin : Cond.instanceMethod y_Frm_begin ∈ gw := gw_t 190 (by decide +kernel) (by decide +kernel)
theorem z_Frm_begin : Cond.selects y_Frm_begin.cls y_Frm_begin y_Frm_begin ∈ gw := gw_t 191 (by decide +kernel) (by decide +kernel)
set_option maxRecDepth 20000 in
theorem v_Wav_begin : Yw y_Wav_begin b_Wav_begin 1 (none) 0 := ⟨gw_t 203 rfl rfl, gw_t 4 (by decide +kernel) (by decide +kernel), by decide +kernel, by decide⟩
theorem i_Wav_begin : Cond.instanceMethod y_Wav_begin ∈ gw := gw_t 201 (by decide +kernel) (by decide +kernel)
theorem z_Wav_begin : Cond.selects y_Wav_begin.cls y_Wav_begin y_Wav_begin ∈ gw := gw_t 202 (by decide +kernel) (by decide +kernel)
set_option maxRecDepth 20000 in
theorem v_Net_has : Yw y_Net_has b_Net_has 3 (some .boolean) 2 := ⟨gw_t 214 rfl rfl, gw_t 2 (by decide +kernel) (by decide +kernel), by decide +kernel, by decide⟩
theorem i_Net_has : Cond.instanceMethod y_Net_has ∈ gw := gw_t 212 (by decide +kernel) (by decide +kernel)
theorem z_Net_has : Cond.selects y_Net_has.cls y_Net_has y_Net_has ∈ gw := gw_t 213 (by decide +kernel) (by decide +kernel)
set_option maxRecDepth 20000 in
theorem v_Net_addEdge : Yw y_Net_addEdge b_Net_addEdge 6 (some .int) 2 := ⟨gw_t 226 rfl rfl, gw_t 2 (by decide +kernel) (by decide +kernel), by decide +kernel, by decide⟩
theorem i_Net_addEdge : Cond.instanceMethod y_Net_addEdge ∈ gw := gw_t 224 (by decide +kernel) (by decide +kernel)
theorem z_Net_addEdge : Cond.selects y_Net_addEdge.cls y_Net_addEdge y_Net_addEdge ∈ gw := gw_t 225 (by decide +kernel) (by decide +kernel)
set_option maxRecDepth 20000 in
theorem v_Nf_makeSlope : Yw y_Nf_makeSlope b_Nf_makeSlope 7 (none) 1 := ⟨gw_t 281 rfl rfl, gw_t 1 (by decide +kernel) (by decide +kernel), by decide +kernel, by decide⟩
theorem i_Nf_makeSlope : Cond.instanceMethod y_Nf_makeSlope ∈ gw := gw_t 280 (by decide +kernel) (by decide +kernel)
theorem z_Nf_makeSlope : Cond.selects y_Nf_makeSlope.cls y_Nf_makeSlope y_Nf_makeSlope ∈ gw := gw_s 1 (by decide +kernel) (by decide +kernel)
set_option maxRecDepth 20000 in
theorem v_Nf_makeRim : Yw y_Nf_makeRim b_Nf_makeRim 7 (none) 1 := ⟨gw_t 298 rfl rfl, gw_t 1 (by decide +kernel) (by decide +kernel), by decide +kernel, by decide⟩
theorem i_Nf_makeRim : Cond.instanceMethod y_Nf_makeRim ∈ gw := gw_t 297 (by decide +kernel) (by decide +kernel)
theorem z_Nf_makeRim : Cond.selects y_Nf_makeRim.cls y_Nf_makeRim y_Nf_makeRim ∈ gw := gw_s 3 (by decide +kernel) (by decide +kernel)
set_option maxRecDepth 20000 in
theorem v_Net_frontOf : Yw y_Net_frontOf b_Net_frontOf 4 (some .int) 3 := ⟨gw_t 306 rfl rfl, gw_t 2 (by decide +kernel) (by decide +kernel), by decide +kernel, by decide⟩
theorem i_Net_frontOf : Cond.instanceMethod y_Net_frontOf ∈ gw := gw_t 304 (by decide +kernel) (by decide +kernel)
theorem z_Net_frontOf : Cond.selects y_Net_frontOf.cls y_Net_frontOf y_Net_frontOf ∈ gw := gw_t 305 (by decide +kernel) (by decide +kernel)
set_option maxRecDepth 20000 in
theorem v_Net_backOf : Yw y_Net_backOf b_Net_backOf 4 (some .int) 3 := ⟨gw_t 311 rfl rfl, gw_t 2 (by decide +kernel) (by decide +kernel), by decide +kernel, by decide⟩
theorem i_Net_backOf : Cond.instanceMethod y_Net_backOf ∈ gw := gw_t 309 (by decide +kernel) (by decide +kernel)
theorem z_Net_backOf : Cond.selects y_Net_backOf.cls y_Net_backOf y_Net_backOf ∈ gw := gw_t 310 (by decide +kernel) (by decide +kernel)
set_option maxRecDepth 20000 in
theorem v_Frm_fitsIn : Yw y_Frm_fitsIn b_Frm_fitsIn 3 (some .boolean) 1 := ⟨gw_t 323 rfl rfl, gw_t 7 (by decide +kernel) (by decide +kernel), by decide +kernel, by decide⟩
theorem i_Frm_fitsIn : Cond.instanceMethod y_Frm_fitsIn ∈ gw := gw_t 321 (by decide +kernel) (by decide +kernel)
theorem z_Frm_fitsIn : Cond.selects y_Frm_fitsIn.cls y_Frm_fitsIn y_Frm_fitsIn ∈ gw := gw_t 322 (by decide +kernel) (by decide +kernel)
set_option maxRecDepth 20000 in
theorem v_Bal_begin : Yw y_Bal_begin b_Bal_begin 3 (none) 1 := ⟨gw_t 352 rfl rfl, gw_t 5 (by decide +kernel) (by decide +kernel), by decide +kernel, by decide⟩
theorem i_Bal_begin : Cond.instanceMethod y_Bal_begin ∈ gw := gw_t 350 (by decide +kernel) (by decide +kernel)
theorem z_Bal_begin : Cond.selects y_Bal_begin.cls y_Bal_begin y_Bal_begin ∈ gw := gw_t 351 (by decide +kernel) (by decide +kernel)
set_option maxRecDepth 20000 in
theorem v_Nf_addPlateProducts : Yw y_Nf_addPlateProducts b_Nf_addPlateProducts 4 (none) 0 := ⟨gw_t 358 rfl rfl, gw_t 1 (by decide +kernel) (by decide +kernel), by decide +kernel, by decide⟩
theorem i_Nf_addPlateProducts : Cond.instanceMethod y_Nf_addPlateProducts ∈ gw := gw_t 357 (by decide +kernel) (by decide +kernel)
theorem z_Nf_addPlateProducts : Cond.selects y_Nf_addPlateProducts.cls y_Nf_addPlateProducts y_Nf_addPlateProducts ∈ gw := gw_s 8 (by decide +kernel) (by decide +kernel)
set_option maxRecDepth 20000 in
theorem v_Bal_clear : Yw y_Bal_clear b_Bal_clear 8 (none) 3 := ⟨gw_t 370 rfl rfl, gw_t 5 (by decide +kernel) (by decide +kernel), by decide +kernel, by decide⟩
theorem i_Bal_clear : Cond.instanceMethod y_Bal_clear ∈ gw := gw_t 369 (by decide +kernel) (by decide +kernel)
theorem z_Bal_clear : Cond.selects y_Bal_clear.cls y_Bal_clear y_Bal_clear ∈ gw := gw_s 9 (by decide +kernel) (by decide +kernel)
set_option maxRecDepth 20000 in
theorem v_Cli_join : Yw y_Cli_join b_Cli_join 7 (none) 3 := ⟨gw_t 385 rfl rfl, gw_t 6 (by decide +kernel) (by decide +kernel), by decide +kernel, by decide⟩
theorem i_Cli_join : Cond.instanceMethod y_Cli_join ∈ gw := gw_t 384 (by decide +kernel) (by decide +kernel)
theorem z_Cli_join : Cond.selects y_Cli_join.cls y_Cli_join y_Cli_join ∈ gw := gw_s 10 (by decide +kernel) (by decide +kernel)
set_option maxRecDepth 20000 in
theorem v_Nf_sharedDivisor : Yw y_Nf_sharedDivisor b_Nf_sharedDivisor 11 (some .long) 2 := ⟨gw_t 414 rfl rfl, gw_t 1 (by decide +kernel) (by decide +kernel), by decide +kernel, by decide⟩
theorem z_Nf_sharedDivisor : Cond.static y_Nf_sharedDivisor ∈ gw := gw_t 413 (by decide +kernel) (by decide +kernel)
set_option maxRecDepth 20000 in
theorem v_Wal_leastWithout : Yw y_Wal_leastWithout b_Wal_leastWithout 3 (some .int) 1 := ⟨gw_t 443 rfl rfl, gw_t 3 (by decide +kernel) (by decide +kernel), by decide +kernel, by decide⟩
theorem i_Wal_leastWithout : Cond.instanceMethod y_Wal_leastWithout ∈ gw := gw_t 441 (by decide +kernel) (by decide +kernel)
theorem z_Wal_leastWithout : Cond.selects y_Wal_leastWithout.cls y_Wal_leastWithout y_Wal_leastWithout ∈ gw := gw_t 442 (by decide +kernel) (by decide +kernel)
set_option maxRecDepth 20000 in
theorem v_Nf_balanceAt : Yw y_Nf_balanceAt b_Nf_balanceAt 3 (none) 2 := ⟨gw_t 459 rfl rfl, gw_t 1 (by decide +kernel) (by decide +kernel), by decide +kernel, by decide⟩
theorem i_Nf_balanceAt : Cond.instanceMethod y_Nf_balanceAt ∈ gw := gw_t 458 (by decide +kernel) (by decide +kernel)
theorem z_Nf_balanceAt : Cond.selects y_Nf_balanceAt.cls y_Nf_balanceAt y_Nf_balanceAt ∈ gw := gw_s 16 (by decide +kernel) (by decide +kernel)
set_option maxRecDepth 20000 in
theorem v_Nf_wave : Yw y_Nf_wave b_Nf_wave 3 (some .int) 1 := ⟨gw_t 463 rfl rfl, gw_t 1 (by decide +kernel) (by decide +kernel), by decide +kernel, by decide⟩
theorem i_Nf_wave : Cond.instanceMethod y_Nf_wave ∈ gw := gw_t 461 (by decide +kernel) (by decide +kernel)
theorem z_Nf_wave : Cond.selects y_Nf_wave.cls y_Nf_wave y_Nf_wave ∈ gw := gw_t 462 (by decide +kernel) (by decide +kernel)
set_option maxRecDepth 20000 in
theorem v_Nf_count : Yw y_Nf_count b_Nf_count 2 (some .int) 1 := ⟨gw_t 491 rfl rfl, gw_t 1 (by decide +kernel) (by decide +kernel), by decide +kernel, by decide⟩
theorem i_Nf_count : Cond.instanceMethod y_Nf_count ∈ gw := gw_t 489 (by decide +kernel) (by decide +kernel)
theorem z_Nf_count : Cond.selects y_Nf_count.cls y_Nf_count y_Nf_count ∈ gw := gw_t 490 (by decide +kernel) (by decide +kernel)
set_option maxRecDepth 20000 in
theorem v_Nf_foldCorners : Yw y_Nf_foldCorners b_Nf_foldCorners 8 (some .long) 2 := ⟨gw_t 506 rfl rfl, gw_t 1 (by decide +kernel) (by decide +kernel), by decide +kernel, by decide⟩
theorem i_Nf_foldCorners : Cond.instanceMethod y_Nf_foldCorners ∈ gw := gw_t 505 (by decide +kernel) (by decide +kernel)
theorem z_Nf_foldCorners : Cond.selects y_Nf_foldCorners.cls y_Nf_foldCorners y_Nf_foldCorners ∈ gw := gw_s 17 (by decide +kernel) (by decide +kernel)
set_option maxRecDepth 20000 in
theorem v_Nf_foldForms : Yw y_Nf_foldForms b_Nf_foldForms 8 (some .long) 1 := ⟨gw_t 510 rfl rfl, gw_t 1 (by decide +kernel) (by decide +kernel), by decide +kernel, by decide⟩
theorem i_Nf_foldForms : Cond.instanceMethod y_Nf_foldForms ∈ gw := gw_t 509 (by decide +kernel) (by decide +kernel)
theorem z_Nf_foldForms : Cond.selects y_Nf_foldForms.cls y_Nf_foldForms y_Nf_foldForms ∈ gw := gw_s 18 (by decide +kernel) (by decide +kernel)
set_option maxRecDepth 20000 in
theorem v_Mo_net : Yw y_Mo_net b_Mo_net 3 (some .int) 1 := ⟨gw_t 603 rfl rfl, gw_t 8 (by decide +kernel) (by decide +kernel), by decide +kernel, by decide⟩
theorem i_Mo_net : Cond.instanceMethod y_Mo_net ∈ gw := gw_t 601 (by decide +kernel) (by decide +kernel)
theorem z_Mo_net : Cond.selects y_Mo_net.cls y_Mo_net y_Mo_net ∈ gw := gw_t 602 (by decide +kernel) (by decide +kernel)
set_option maxRecDepth 20000 in
theorem v_Mo_isPoint : Yw y_Mo_isPoint b_Mo_isPoint 2 (some .boolean) 1 := ⟨gw_t 619 rfl rfl, gw_t 8 (by decide +kernel) (by decide +kernel), by decide +kernel, by decide⟩
theorem i_Mo_isPoint : Cond.instanceMethod y_Mo_isPoint ∈ gw := gw_t 618 (by decide +kernel) (by decide +kernel)
theorem z_Mo_isPoint : Cond.selects y_Mo_isPoint.cls y_Mo_isPoint y_Mo_isPoint ∈ gw := gw_s 21 (by decide +kernel) (by decide +kernel)
set_option maxRecDepth 20000 in
theorem v_Mo_corner : Yw y_Mo_corner b_Mo_corner 4 (some .int) 3 := ⟨gw_t 631 rfl rfl, gw_t 8 (by decide +kernel) (by decide +kernel), by decide +kernel, by decide⟩
theorem i_Mo_corner : Cond.instanceMethod y_Mo_corner ∈ gw := gw_t 629 (by decide +kernel) (by decide +kernel)
theorem z_Mo_corner : Cond.selects y_Mo_corner.cls y_Mo_corner y_Mo_corner ∈ gw := gw_t 630 (by decide +kernel) (by decide +kernel)
set_option maxRecDepth 20000 in
theorem v_Mo_isForm : Yw y_Mo_isForm b_Mo_isForm 1 (some .boolean) 1 := ⟨gw_t 638 rfl rfl, gw_t 8 (by decide +kernel) (by decide +kernel), by decide +kernel, by decide⟩
theorem z_Mo_isForm : Cond.static y_Mo_isForm ∈ gw := gw_t 637 (by decide +kernel) (by decide +kernel)
set_option maxRecDepth 20000 in
theorem v_Mo_onEdge : Yw y_Mo_onEdge b_Mo_onEdge 4 (some .long) 3 := ⟨gw_t 675 rfl rfl, gw_t 8 (by decide +kernel) (by decide +kernel), by decide +kernel, by decide⟩
theorem i_Mo_onEdge : Cond.instanceMethod y_Mo_onEdge ∈ gw := gw_t 674 (by decide +kernel) (by decide +kernel)
theorem z_Mo_onEdge : Cond.selects y_Mo_onEdge.cls y_Mo_onEdge y_Mo_onEdge ∈ gw := gw_s 27 (by decide +kernel) (by decide +kernel)
set_option maxRecDepth 20000 in
theorem v_Mo_becomes : Yw y_Mo_becomes b_Mo_becomes 4 (some .int) 2 := ⟨gw_t 679 rfl rfl, gw_t 8 (by decide +kernel) (by decide +kernel), by decide +kernel, by decide⟩
theorem i_Mo_becomes : Cond.instanceMethod y_Mo_becomes ∈ gw := gw_t 678 (by decide +kernel) (by decide +kernel)
theorem z_Mo_becomes : Cond.selects y_Mo_becomes.cls y_Mo_becomes y_Mo_becomes ∈ gw := gw_s 28 (by decide +kernel) (by decide +kernel)
set_option maxRecDepth 20000 in
theorem v_Mo_makeRim : Yw y_Mo_makeRim b_Mo_makeRim 3 (none) 1 := ⟨gw_t 687 rfl rfl, gw_t 8 (by decide +kernel) (by decide +kernel), by decide +kernel, by decide⟩
theorem i_Mo_makeRim : Cond.instanceMethod y_Mo_makeRim ∈ gw := gw_t 686 (by decide +kernel) (by decide +kernel)
theorem z_Mo_makeRim : Cond.selects y_Mo_makeRim.cls y_Mo_makeRim y_Mo_makeRim ∈ gw := gw_s 29 (by decide +kernel) (by decide +kernel)
set_option maxRecDepth 20000 in
theorem v_Mo_isNought : Yw y_Mo_isNought b_Mo_isNought 4 (some .boolean) 1 := ⟨gw_t 710 rfl rfl, gw_t 8 (by decide +kernel) (by decide +kernel), by decide +kernel, by decide⟩
theorem i_Mo_isNought : Cond.instanceMethod y_Mo_isNought ∈ gw := gw_t 709 (by decide +kernel) (by decide +kernel)
theorem z_Mo_isNought : Cond.selects y_Mo_isNought.cls y_Mo_isNought y_Mo_isNought ∈ gw := gw_s 31 (by decide +kernel) (by decide +kernel)
set_option maxRecDepth 20000 in
theorem v_Mo_parts : Yw y_Mo_parts b_Mo_parts 3 (some .int) 0 := ⟨gw_t 718 rfl rfl, gw_t 8 (by decide +kernel) (by decide +kernel), by decide +kernel, by decide⟩
theorem i_Mo_parts : Cond.instanceMethod y_Mo_parts ∈ gw := gw_t 717 (by decide +kernel) (by decide +kernel)
theorem z_Mo_parts : Cond.selects y_Mo_parts.cls y_Mo_parts y_Mo_parts ∈ gw := gw_s 32 (by decide +kernel) (by decide +kernel)
set_option maxRecDepth 20000 in
theorem v_Mo_turns : Yw y_Mo_turns b_Mo_turns 10 (some .int) 3 := ⟨gw_t 739 rfl rfl, gw_t 8 (by decide +kernel) (by decide +kernel), by decide +kernel, by decide⟩
theorem i_Mo_turns : Cond.instanceMethod y_Mo_turns ∈ gw := gw_t 738 (by decide +kernel) (by decide +kernel)
theorem z_Mo_turns : Cond.selects y_Mo_turns.cls y_Mo_turns y_Mo_turns ∈ gw := gw_s 37 (by decide +kernel) (by decide +kernel)
set_option maxRecDepth 20000 in
theorem v_Mo_lowest : Yw y_Mo_lowest b_Mo_lowest 7 (some .long) 3 := ⟨gw_t 767 rfl rfl, gw_t 8 (by decide +kernel) (by decide +kernel), by decide +kernel, by decide⟩
theorem z_Mo_lowest : Cond.static y_Mo_lowest ∈ gw := gw_t 766 (by decide +kernel) (by decide +kernel)
set_option maxRecDepth 20000 in
theorem v_Mo_wave : Yw y_Mo_wave b_Mo_wave 3 (some .int) 1 := ⟨gw_t 795 rfl rfl, gw_t 8 (by decide +kernel) (by decide +kernel), by decide +kernel, by decide⟩
theorem i_Mo_wave : Cond.instanceMethod y_Mo_wave ∈ gw := gw_t 793 (by decide +kernel) (by decide +kernel)
theorem z_Mo_wave : Cond.selects y_Mo_wave.cls y_Mo_wave y_Mo_wave ∈ gw := gw_t 794 (by decide +kernel) (by decide +kernel)
set_option maxRecDepth 20000 in
theorem v_Mo_flow : Yw y_Mo_flow b_Mo_flow 2 (some .long) 1 := ⟨gw_t 817 rfl rfl, gw_t 8 (by decide +kernel) (by decide +kernel), by decide +kernel, by decide⟩
theorem i_Mo_flow : Cond.instanceMethod y_Mo_flow ∈ gw := gw_t 815 (by decide +kernel) (by decide +kernel)
theorem z_Mo_flow : Cond.selects y_Mo_flow.cls y_Mo_flow y_Mo_flow ∈ gw := gw_t 816 (by decide +kernel) (by decide +kernel)
set_option maxRecDepth 20000 in
theorem v_Nf_net : Yw y_Nf_net b_Nf_net 3 (some .int) 1 := ⟨gw_t 188 rfl rfl, gw_t 1 (by decide +kernel) (by decide +kernel), by decide +kernel, by decide⟩
theorem i_Nf_net : Cond.instanceMethod y_Nf_net ∈ gw := gw_t 186 (by decide +kernel) (by decide +kernel)
theorem z_Nf_net : Cond.selects y_Nf_net.cls y_Nf_net y_Nf_net ∈ gw := gw_t 187 (by decide +kernel) (by decide +kernel)
set_option maxRecDepth 20000 in
theorem v_Nf_edge : Yw y_Nf_edge b_Nf_edge 3 (some .int) 2 := ⟨gw_t 210 rfl rfl, gw_t 1 (by decide +kernel) (by decide +kernel), by decide +kernel, by decide⟩
theorem i_Nf_edge : Cond.instanceMethod y_Nf_edge ∈ gw := gw_t 208 (by decide +kernel) (by decide +kernel)
theorem z_Nf_edge : Cond.selects y_Nf_edge.cls y_Nf_edge y_Nf_edge ∈ gw := gw_t 209 (by decide +kernel) (by decide +kernel)
set_option maxRecDepth 20000 in
theorem v_Nf_face : Yw y_Nf_face b_Nf_face 7 (some .int) 3 := ⟨gw_t 236 rfl rfl, gw_t 1 (by decide +kernel) (by decide +kernel), by decide +kernel, by decide⟩
theorem i_Nf_face : Cond.instanceMethod y_Nf_face ∈ gw := gw_t 234 (by decide +kernel) (by decide +kernel)
theorem z_Nf_face : Cond.selects y_Nf_face.cls y_Nf_face y_Nf_face ∈ gw := gw_t 235 (by decide +kernel) (by decide +kernel)
set_option maxRecDepth 20000 in
theorem v_Nf_corner : Yw y_Nf_corner b_Nf_corner 4 (some .int) 3 := ⟨gw_t 248 rfl rfl, gw_t 1 (by decide +kernel) (by decide +kernel), by decide +kernel, by decide⟩
theorem i_Nf_corner : Cond.instanceMethod y_Nf_corner ∈ gw := gw_t 246 (by decide +kernel) (by decide +kernel)
theorem z_Nf_corner : Cond.selects y_Nf_corner.cls y_Nf_corner y_Nf_corner ∈ gw := gw_t 247 (by decide +kernel) (by decide +kernel)
set_option maxRecDepth 20000 in
theorem v_Nf_form : Yw y_Nf_form b_Nf_form 4 (some .int) 2 := ⟨gw_t 256 rfl rfl, gw_t 1 (by decide +kernel) (by decide +kernel), by decide +kernel, by decide⟩
theorem i_Nf_form : Cond.instanceMethod y_Nf_form ∈ gw := gw_t 254 (by decide +kernel) (by decide +kernel)
theorem z_Nf_form : Cond.selects y_Nf_form.cls y_Nf_form y_Nf_form ∈ gw := gw_t 255 (by decide +kernel) (by decide +kernel)
set_option maxRecDepth 20000 in
theorem v_Nf_set : Yw y_Nf_set b_Nf_set 6 (some .int) 3 := ⟨gw_t 264 rfl rfl, gw_t 1 (by decide +kernel) (by decide +kernel), by decide +kernel, by decide⟩
theorem i_Nf_set : Cond.instanceMethod y_Nf_set ∈ gw := gw_t 262 (by decide +kernel) (by decide +kernel)
theorem z_Nf_set : Cond.selects y_Nf_set.cls y_Nf_set y_Nf_set ∈ gw := gw_t 263 (by decide +kernel) (by decide +kernel)
set_option maxRecDepth 20000 in
theorem v_Nf_get : Yw y_Nf_get b_Nf_get 4 (some .int) 2 := ⟨gw_t 273 rfl rfl, gw_t 1 (by decide +kernel) (by decide +kernel), by decide +kernel, by decide⟩
theorem i_Nf_get : Cond.instanceMethod y_Nf_get ∈ gw := gw_t 271 (by decide +kernel) (by decide +kernel)
theorem z_Nf_get : Cond.selects y_Nf_get.cls y_Nf_get y_Nf_get ∈ gw := gw_t 272 (by decide +kernel) (by decide +kernel)
set_option maxRecDepth 20000 in
theorem v_Nf_giveMade : Yw y_Nf_giveMade b_Nf_giveMade 5 (some .int) 2 := ⟨gw_t 290 rfl rfl, gw_t 1 (by decide +kernel) (by decide +kernel), by decide +kernel, by decide⟩
theorem i_Nf_giveMade : Cond.instanceMethod y_Nf_giveMade ∈ gw := gw_t 289 (by decide +kernel) (by decide +kernel)
theorem z_Nf_giveMade : Cond.selects y_Nf_giveMade.cls y_Nf_giveMade y_Nf_giveMade ∈ gw := gw_s 2 (by decide +kernel) (by decide +kernel)
set_option maxRecDepth 20000 in
theorem v_Nf_hasNoSlope : Yw y_Nf_hasNoSlope b_Nf_hasNoSlope 2 (some .boolean) 1 := ⟨gw_t 328 rfl rfl, gw_t 1 (by decide +kernel) (by decide +kernel), by decide +kernel, by decide⟩
theorem i_Nf_hasNoSlope : Cond.instanceMethod y_Nf_hasNoSlope ∈ gw := gw_t 327 (by decide +kernel) (by decide +kernel)
theorem z_Nf_hasNoSlope : Cond.selects y_Nf_hasNoSlope.cls y_Nf_hasNoSlope y_Nf_hasNoSlope ∈ gw := gw_s 4 (by decide +kernel) (by decide +kernel)
set_option maxRecDepth 20000 in
theorem v_Nf_hasNoRim : Yw y_Nf_hasNoRim b_Nf_hasNoRim 2 (some .boolean) 1 := ⟨gw_t 336 rfl rfl, gw_t 1 (by decide +kernel) (by decide +kernel), by decide +kernel, by decide⟩
theorem i_Nf_hasNoRim : Cond.instanceMethod y_Nf_hasNoRim ∈ gw := gw_t 335 (by decide +kernel) (by decide +kernel)
theorem z_Nf_hasNoRim : Cond.selects y_Nf_hasNoRim.cls y_Nf_hasNoRim y_Nf_hasNoRim ∈ gw := gw_s 6 (by decide +kernel) (by decide +kernel)
set_option maxRecDepth 20000 in
theorem v_Bal_solve : Yw y_Bal_solve b_Bal_solve 5 (none) 0 := ⟨gw_t 366 rfl rfl, gw_t 5 (by decide +kernel) (by decide +kernel), by decide +kernel, by decide⟩
theorem i_Bal_solve : Cond.instanceMethod y_Bal_solve ∈ gw := gw_t 364 (by decide +kernel) (by decide +kernel)
theorem z_Bal_solve : Cond.selects y_Bal_solve.cls y_Bal_solve y_Bal_solve ∈ gw := gw_t 365 (by decide +kernel) (by decide +kernel)
set_option maxRecDepth 20000 in
theorem v_Cli_along : Yw y_Cli_along b_Cli_along 8 (some .int) 2 := ⟨gw_t 381 rfl rfl, gw_t 6 (by decide +kernel) (by decide +kernel), by decide +kernel, by decide⟩
theorem i_Cli_along : Cond.instanceMethod y_Cli_along ∈ gw := gw_t 379 (by decide +kernel) (by decide +kernel)
theorem z_Cli_along : Cond.selects y_Cli_along.cls y_Cli_along y_Cli_along ∈ gw := gw_t 380 (by decide +kernel) (by decide +kernel)
set_option maxRecDepth 20000 in
theorem v_Nf_lowestTerms : Yw y_Nf_lowestTerms b_Nf_lowestTerms 7 (some .long) 3 := ⟨gw_t 411 rfl rfl, gw_t 1 (by decide +kernel) (by decide +kernel), by decide +kernel, by decide⟩
theorem z_Nf_lowestTerms : Cond.static y_Nf_lowestTerms ∈ gw := gw_t 410 (by decide +kernel) (by decide +kernel)
set_option maxRecDepth 20000 in
theorem v_Nf_wall : Yw y_Nf_wall b_Nf_wall 3 (some .int) 2 := ⟨gw_t 430 rfl rfl, gw_t 1 (by decide +kernel) (by decide +kernel), by decide +kernel, by decide⟩
theorem i_Nf_wall : Cond.instanceMethod y_Nf_wall ∈ gw := gw_t 428 (by decide +kernel) (by decide +kernel)
theorem z_Nf_wall : Cond.selects y_Nf_wall.cls y_Nf_wall y_Nf_wall ∈ gw := gw_t 429 (by decide +kernel) (by decide +kernel)
set_option maxRecDepth 20000 in
theorem v_Nf_open : Yw y_Nf_open b_Nf_open 2 (some .int) 1 := ⟨gw_t 434 rfl rfl, gw_t 1 (by decide +kernel) (by decide +kernel), by decide +kernel, by decide⟩
theorem i_Nf_open : Cond.instanceMethod y_Nf_open ∈ gw := gw_t 432 (by decide +kernel) (by decide +kernel)
theorem z_Nf_open : Cond.selects y_Nf_open.cls y_Nf_open y_Nf_open ∈ gw := gw_t 433 (by decide +kernel) (by decide +kernel)
set_option maxRecDepth 20000 in
theorem v_Nf_field : Yw y_Nf_field b_Nf_field 1 (some .int) 0 := ⟨gw_t 439 rfl rfl, gw_t 1 (by decide +kernel) (by decide +kernel), by decide +kernel, by decide⟩
theorem i_Nf_field : Cond.instanceMethod y_Nf_field ∈ gw := gw_t 437 (by decide +kernel) (by decide +kernel)
theorem z_Nf_field : Cond.selects y_Nf_field.cls y_Nf_field y_Nf_field ∈ gw := gw_t 438 (by decide +kernel) (by decide +kernel)
set_option maxRecDepth 20000 in
theorem v_Nf_raise : Yw y_Nf_raise b_Nf_raise 4 (some .int) 1 := ⟨gw_t 475 rfl rfl, gw_t 1 (by decide +kernel) (by decide +kernel), by decide +kernel, by decide⟩
theorem i_Nf_raise : Cond.instanceMethod y_Nf_raise ∈ gw := gw_t 473 (by decide +kernel) (by decide +kernel)
theorem z_Nf_raise : Cond.selects y_Nf_raise.cls y_Nf_raise y_Nf_raise ∈ gw := gw_t 474 (by decide +kernel) (by decide +kernel)
set_option maxRecDepth 20000 in
theorem v_Nf_height : Yw y_Nf_height b_Nf_height 2 (some .long) 1 := ⟨gw_t 479 rfl rfl, gw_t 1 (by decide +kernel) (by decide +kernel), by decide +kernel, by decide⟩
theorem i_Nf_height : Cond.instanceMethod y_Nf_height ∈ gw := gw_t 477 (by decide +kernel) (by decide +kernel)
theorem z_Nf_height : Cond.selects y_Nf_height.cls y_Nf_height y_Nf_height ∈ gw := gw_t 478 (by decide +kernel) (by decide +kernel)
set_option maxRecDepth 20000 in
theorem v_Nf_flow : Yw y_Nf_flow b_Nf_flow 2 (some .long) 1 := ⟨gw_t 483 rfl rfl, gw_t 1 (by decide +kernel) (by decide +kernel), by decide +kernel, by decide⟩
theorem i_Nf_flow : Cond.instanceMethod y_Nf_flow ∈ gw := gw_t 481 (by decide +kernel) (by decide +kernel)
theorem z_Nf_flow : Cond.selects y_Nf_flow.cls y_Nf_flow y_Nf_flow ∈ gw := gw_t 482 (by decide +kernel) (by decide +kernel)
set_option maxRecDepth 20000 in
theorem v_Nf_digest : Yw y_Nf_digest b_Nf_digest 4 (some .long) 0 := ⟨gw_t 499 rfl rfl, gw_t 1 (by decide +kernel) (by decide +kernel), by decide +kernel, by decide⟩
theorem i_Nf_digest : Cond.instanceMethod y_Nf_digest ∈ gw := gw_t 497 (by decide +kernel) (by decide +kernel)
theorem z_Nf_digest : Cond.selects y_Nf_digest.cls y_Nf_digest y_Nf_digest ∈ gw := gw_t 498 (by decide +kernel) (by decide +kernel)
set_option maxRecDepth 20000 in
theorem v_Mo_edge : Yw y_Mo_edge b_Mo_edge 3 (some .int) 2 := ⟨gw_t 615 rfl rfl, gw_t 8 (by decide +kernel) (by decide +kernel), by decide +kernel, by decide⟩
theorem i_Mo_edge : Cond.instanceMethod y_Mo_edge ∈ gw := gw_t 613 (by decide +kernel) (by decide +kernel)
theorem z_Mo_edge : Cond.selects y_Mo_edge.cls y_Mo_edge y_Mo_edge ∈ gw := gw_t 614 (by decide +kernel) (by decide +kernel)
set_option maxRecDepth 20000 in
theorem v_Mo_face : Yw y_Mo_face b_Mo_face 6 (some .int) 3 := ⟨gw_t 627 rfl rfl, gw_t 8 (by decide +kernel) (by decide +kernel), by decide +kernel, by decide⟩
theorem i_Mo_face : Cond.instanceMethod y_Mo_face ∈ gw := gw_t 625 (by decide +kernel) (by decide +kernel)
theorem z_Mo_face : Cond.selects y_Mo_face.cls y_Mo_face y_Mo_face ∈ gw := gw_t 626 (by decide +kernel) (by decide +kernel)
set_option maxRecDepth 20000 in
theorem v_Mo_form : Yw y_Mo_form b_Mo_form 3 (some .int) 2 := ⟨gw_t 635 rfl rfl, gw_t 8 (by decide +kernel) (by decide +kernel), by decide +kernel, by decide⟩
theorem i_Mo_form : Cond.instanceMethod y_Mo_form ∈ gw := gw_t 633 (by decide +kernel) (by decide +kernel)
theorem z_Mo_form : Cond.selects y_Mo_form.cls y_Mo_form y_Mo_form ∈ gw := gw_t 634 (by decide +kernel) (by decide +kernel)
set_option maxRecDepth 20000 in
theorem v_Mo_isThere : Yw y_Mo_isThere b_Mo_isThere 3 (some .boolean) 2 := ⟨gw_t 648 rfl rfl, gw_t 8 (by decide +kernel) (by decide +kernel), by decide +kernel, by decide⟩
theorem i_Mo_isThere : Cond.instanceMethod y_Mo_isThere ∈ gw := gw_t 647 (by decide +kernel) (by decide +kernel)
theorem z_Mo_isThere : Cond.selects y_Mo_isThere.cls y_Mo_isThere y_Mo_isThere ∈ gw := gw_s 23 (by decide +kernel) (by decide +kernel)
set_option maxRecDepth 20000 in
theorem v_Mo_makeSlope : Yw y_Mo_makeSlope b_Mo_makeSlope 4 (none) 1 := ⟨gw_t 667 rfl rfl, gw_t 8 (by decide +kernel) (by decide +kernel), by decide +kernel, by decide⟩
theorem i_Mo_makeSlope : Cond.instanceMethod y_Mo_makeSlope ∈ gw := gw_t 666 (by decide +kernel) (by decide +kernel)
theorem z_Mo_makeSlope : Cond.selects y_Mo_makeSlope.cls y_Mo_makeSlope y_Mo_makeSlope ∈ gw := gw_s 25 (by decide +kernel) (by decide +kernel)
set_option maxRecDepth 20000 in
theorem v_Mo_rim : Yw y_Mo_rim b_Mo_rim 3 (some .int) 2 := ⟨gw_t 683 rfl rfl, gw_t 8 (by decide +kernel) (by decide +kernel), by decide +kernel, by decide⟩
theorem i_Mo_rim : Cond.instanceMethod y_Mo_rim ∈ gw := gw_t 681 (by decide +kernel) (by decide +kernel)
theorem z_Mo_rim : Cond.selects y_Mo_rim.cls y_Mo_rim y_Mo_rim ∈ gw := gw_t 682 (by decide +kernel) (by decide +kernel)
set_option maxRecDepth 20000 in
theorem v_Mo_cupAt : Yw y_Mo_cupAt b_Mo_cupAt 6 (some .long) 3 := ⟨gw_t 695 rfl rfl, gw_t 8 (by decide +kernel) (by decide +kernel), by decide +kernel, by decide⟩
theorem i_Mo_cupAt : Cond.instanceMethod y_Mo_cupAt ∈ gw := gw_t 694 (by decide +kernel) (by decide +kernel)
theorem z_Mo_cupAt : Cond.selects y_Mo_cupAt.cls y_Mo_cupAt y_Mo_cupAt ∈ gw := gw_s 30 (by decide +kernel) (by decide +kernel)
set_option maxRecDepth 20000 in
theorem v_Mo_mix : Yw y_Mo_mix b_Mo_mix 7 (some .int) 5 := ⟨gw_t 699 rfl rfl, gw_t 8 (by decide +kernel) (by decide +kernel), by decide +kernel, by decide⟩
theorem i_Mo_mix : Cond.instanceMethod y_Mo_mix ∈ gw := gw_t 697 (by decide +kernel) (by decide +kernel)
theorem z_Mo_mix : Cond.selects y_Mo_mix.cls y_Mo_mix y_Mo_mix ∈ gw := gw_t 698 (by decide +kernel) (by decide +kernel)
set_option maxRecDepth 20000 in
theorem v_Mo_slopeRank : Yw y_Mo_slopeRank b_Mo_slopeRank 1 (some .int) 0 := ⟨gw_t 726 rfl rfl, gw_t 8 (by decide +kernel) (by decide +kernel), by decide +kernel, by decide⟩
theorem i_Mo_slopeRank : Cond.instanceMethod y_Mo_slopeRank ∈ gw := gw_t 725 (by decide +kernel) (by decide +kernel)
theorem z_Mo_slopeRank : Cond.selects y_Mo_slopeRank.cls y_Mo_slopeRank y_Mo_slopeRank ∈ gw := gw_s 34 (by decide +kernel) (by decide +kernel)
set_option maxRecDepth 20000 in
theorem v_Mo_turnRank : Yw y_Mo_turnRank b_Mo_turnRank 2 (some .int) 0 := ⟨gw_t 730 rfl rfl, gw_t 8 (by decide +kernel) (by decide +kernel), by decide +kernel, by decide⟩
theorem i_Mo_turnRank : Cond.instanceMethod y_Mo_turnRank ∈ gw := gw_t 729 (by decide +kernel) (by decide +kernel)
theorem z_Mo_turnRank : Cond.selects y_Mo_turnRank.cls y_Mo_turnRank y_Mo_turnRank ∈ gw := gw_s 35 (by decide +kernel) (by decide +kernel)
set_option maxRecDepth 20000 in
theorem v_Mo_potential : Yw y_Mo_potential b_Mo_potential 8 (some .int) 2 := ⟨gw_t 747 rfl rfl, gw_t 8 (by decide +kernel) (by decide +kernel), by decide +kernel, by decide⟩
theorem i_Mo_potential : Cond.instanceMethod y_Mo_potential ∈ gw := gw_t 745 (by decide +kernel) (by decide +kernel)
theorem z_Mo_potential : Cond.selects y_Mo_potential.cls y_Mo_potential y_Mo_potential ∈ gw := gw_t 746 (by decide +kernel) (by decide +kernel)
set_option maxRecDepth 20000 in
theorem v_Mo_solves : Yw y_Mo_solves b_Mo_solves 4 (none) 1 := ⟨gw_t 760 rfl rfl, gw_t 8 (by decide +kernel) (by decide +kernel), by decide +kernel, by decide⟩
theorem i_Mo_solves : Cond.instanceMethod y_Mo_solves ∈ gw := gw_t 759 (by decide +kernel) (by decide +kernel)
theorem z_Mo_solves : Cond.selects y_Mo_solves.cls y_Mo_solves y_Mo_solves ∈ gw := gw_s 40 (by decide +kernel) (by decide +kernel)
set_option maxRecDepth 20000 in
theorem v_Mo_wall : Yw y_Mo_wall b_Mo_wall 3 (some .int) 2 := ⟨gw_t 774 rfl rfl, gw_t 8 (by decide +kernel) (by decide +kernel), by decide +kernel, by decide⟩
theorem i_Mo_wall : Cond.instanceMethod y_Mo_wall ∈ gw := gw_t 772 (by decide +kernel) (by decide +kernel)
theorem z_Mo_wall : Cond.selects y_Mo_wall.cls y_Mo_wall y_Mo_wall ∈ gw := gw_t 773 (by decide +kernel) (by decide +kernel)
set_option maxRecDepth 20000 in
theorem v_Mo_open : Yw y_Mo_open b_Mo_open 2 (some .int) 1 := ⟨gw_t 778 rfl rfl, gw_t 8 (by decide +kernel) (by decide +kernel), by decide +kernel, by decide⟩
theorem i_Mo_open : Cond.instanceMethod y_Mo_open ∈ gw := gw_t 776 (by decide +kernel) (by decide +kernel)
theorem z_Mo_open : Cond.selects y_Mo_open.cls y_Mo_open y_Mo_open ∈ gw := gw_t 777 (by decide +kernel) (by decide +kernel)
set_option maxRecDepth 20000 in
theorem v_Mo_forbids : Yw y_Mo_forbids b_Mo_forbids 4 (some .int) 0 := ⟨gw_t 787 rfl rfl, gw_t 8 (by decide +kernel) (by decide +kernel), by decide +kernel, by decide⟩
theorem i_Mo_forbids : Cond.instanceMethod y_Mo_forbids ∈ gw := gw_t 786 (by decide +kernel) (by decide +kernel)
theorem z_Mo_forbids : Cond.selects y_Mo_forbids.cls y_Mo_forbids y_Mo_forbids ∈ gw := gw_s 42 (by decide +kernel) (by decide +kernel)
set_option maxRecDepth 20000 in
theorem v_Mo_raise : Yw y_Mo_raise b_Mo_raise 3 (some .int) 1 := ⟨gw_t 809 rfl rfl, gw_t 8 (by decide +kernel) (by decide +kernel), by decide +kernel, by decide⟩
theorem i_Mo_raise : Cond.instanceMethod y_Mo_raise ∈ gw := gw_t 807 (by decide +kernel) (by decide +kernel)
theorem z_Mo_raise : Cond.selects y_Mo_raise.cls y_Mo_raise y_Mo_raise ∈ gw := gw_t 808 (by decide +kernel) (by decide +kernel)
set_option maxRecDepth 20000 in
theorem v_Mo_height : Yw y_Mo_height b_Mo_height 2 (some .long) 1 := ⟨gw_t 813 rfl rfl, gw_t 8 (by decide +kernel) (by decide +kernel), by decide +kernel, by decide⟩
theorem i_Mo_height : Cond.instanceMethod y_Mo_height ∈ gw := gw_t 811 (by decide +kernel) (by decide +kernel)
theorem z_Mo_height : Cond.selects y_Mo_height.cls y_Mo_height y_Mo_height ∈ gw := gw_t 812 (by decide +kernel) (by decide +kernel)
set_option maxRecDepth 20000 in
theorem v_Mo_count : Yw y_Mo_count b_Mo_count 4 (some .int) 1 := ⟨gw_t 825 rfl rfl, gw_t 8 (by decide +kernel) (by decide +kernel), by decide +kernel, by decide⟩
theorem i_Mo_count : Cond.instanceMethod y_Mo_count ∈ gw := gw_t 823 (by decide +kernel) (by decide +kernel)
theorem z_Mo_count : Cond.selects y_Mo_count.cls y_Mo_count y_Mo_count ∈ gw := gw_t 824 (by decide +kernel) (by decide +kernel)
set_option maxRecDepth 20000 in
theorem v_Nf_slope : Yw y_Nf_slope b_Nf_slope 5 (some .int) 2 := ⟨gw_t 277 rfl rfl, gw_t 1 (by decide +kernel) (by decide +kernel), by decide +kernel, by decide⟩
theorem i_Nf_slope : Cond.instanceMethod y_Nf_slope ∈ gw := gw_t 275 (by decide +kernel) (by decide +kernel)
theorem z_Nf_slope : Cond.selects y_Nf_slope.cls y_Nf_slope y_Nf_slope ∈ gw := gw_t 276 (by decide +kernel) (by decide +kernel)
set_option maxRecDepth 20000 in
theorem v_Nf_rim : Yw y_Nf_rim b_Nf_rim 5 (some .int) 2 := ⟨gw_t 294 rfl rfl, gw_t 1 (by decide +kernel) (by decide +kernel), by decide +kernel, by decide⟩
theorem i_Nf_rim : Cond.instanceMethod y_Nf_rim ∈ gw := gw_t 292 (by decide +kernel) (by decide +kernel)
theorem z_Nf_rim : Cond.selects y_Nf_rim.cls y_Nf_rim y_Nf_rim ∈ gw := gw_t 293 (by decide +kernel) (by decide +kernel)
set_option maxRecDepth 20000 in
theorem v_Nf_cup : Yw y_Nf_cup b_Nf_cup 11 (some .int) 3 := ⟨gw_t 302 rfl rfl, gw_t 1 (by decide +kernel) (by decide +kernel), by decide +kernel, by decide⟩
theorem i_Nf_cup : Cond.instanceMethod y_Nf_cup ∈ gw := gw_t 300 (by decide +kernel) (by decide +kernel)
theorem z_Nf_cup : Cond.selects y_Nf_cup.cls y_Nf_cup y_Nf_cup ∈ gw := gw_t 301 (by decide +kernel) (by decide +kernel)
set_option maxRecDepth 20000 in
theorem v_Nf_mix : Yw y_Nf_mix b_Nf_mix 10 (some .int) 5 := ⟨gw_t 315 rfl rfl, gw_t 1 (by decide +kernel) (by decide +kernel), by decide +kernel, by decide⟩
theorem i_Nf_mix : Cond.instanceMethod y_Nf_mix ∈ gw := gw_t 313 (by decide +kernel) (by decide +kernel)
theorem z_Nf_mix : Cond.selects y_Nf_mix.cls y_Nf_mix y_Nf_mix ∈ gw := gw_t 314 (by decide +kernel) (by decide +kernel)
set_option maxRecDepth 20000 in
theorem v_Nf_about : Yw y_Nf_about b_Nf_about 4 (some .int) 2 := ⟨gw_t 319 rfl rfl, gw_t 1 (by decide +kernel) (by decide +kernel), by decide +kernel, by decide⟩
theorem i_Nf_about : Cond.instanceMethod y_Nf_about ∈ gw := gw_t 317 (by decide +kernel) (by decide +kernel)
theorem z_Nf_about : Cond.selects y_Nf_about.cls y_Nf_about y_Nf_about ∈ gw := gw_t 318 (by decide +kernel) (by decide +kernel)
set_option maxRecDepth 20000 in
theorem v_Nf_countTurns : Yw y_Nf_countTurns b_Nf_countTurns 1 (some .int) 0 := ⟨gw_t 348 rfl rfl, gw_t 1 (by decide +kernel) (by decide +kernel), by decide +kernel, by decide⟩
theorem i_Nf_countTurns : Cond.instanceMethod y_Nf_countTurns ∈ gw := gw_t 347 (by decide +kernel) (by decide +kernel)
theorem z_Nf_countTurns : Cond.selects y_Nf_countTurns.cls y_Nf_countTurns y_Nf_countTurns ∈ gw := gw_s 7 (by decide +kernel) (by decide +kernel)
set_option maxRecDepth 20000 in
theorem v_Nf_potential : Yw y_Nf_potential b_Nf_potential 7 (some .int) 2 := ⟨gw_t 377 rfl rfl, gw_t 1 (by decide +kernel) (by decide +kernel), by decide +kernel, by decide⟩
theorem i_Nf_potential : Cond.instanceMethod y_Nf_potential ∈ gw := gw_t 375 (by decide +kernel) (by decide +kernel)
theorem z_Nf_potential : Cond.selects y_Nf_potential.cls y_Nf_potential y_Nf_potential ∈ gw := gw_t 376 (by decide +kernel) (by decide +kernel)
set_option maxRecDepth 20000 in
theorem v_Nf_slopePart : Yw y_Nf_slopePart b_Nf_slopePart 6 (some .long) 2 := ⟨gw_t 399 rfl rfl, gw_t 1 (by decide +kernel) (by decide +kernel), by decide +kernel, by decide⟩
theorem i_Nf_slopePart : Cond.instanceMethod y_Nf_slopePart ∈ gw := gw_t 398 (by decide +kernel) (by decide +kernel)
theorem z_Nf_slopePart : Cond.selects y_Nf_slopePart.cls y_Nf_slopePart y_Nf_slopePart ∈ gw := gw_s 11 (by decide +kernel) (by decide +kernel)
set_option maxRecDepth 20000 in
theorem v_Nf_turnPart : Yw y_Nf_turnPart b_Nf_turnPart 6 (some .long) 2 := ⟨gw_t 422 rfl rfl, gw_t 1 (by decide +kernel) (by decide +kernel), by decide +kernel, by decide⟩
theorem i_Nf_turnPart : Cond.instanceMethod y_Nf_turnPart ∈ gw := gw_t 421 (by decide +kernel) (by decide +kernel)
theorem z_Nf_turnPart : Cond.selects y_Nf_turnPart.cls y_Nf_turnPart y_Nf_turnPart ∈ gw := gw_s 12 (by decide +kernel) (by decide +kernel)
set_option maxRecDepth 20000 in
theorem v_Nf_balanceField : Yw y_Nf_balanceField b_Nf_balanceField 2 (none) 0 := ⟨gw_t 455 rfl rfl, gw_t 1 (by decide +kernel) (by decide +kernel), by decide +kernel, by decide⟩
theorem i_Nf_balanceField : Cond.instanceMethod y_Nf_balanceField ∈ gw := gw_t 454 (by decide +kernel) (by decide +kernel)
theorem z_Nf_balanceField : Cond.selects y_Nf_balanceField.cls y_Nf_balanceField y_Nf_balanceField ∈ gw := gw_s 15 (by decide +kernel) (by decide +kernel)
set_option maxRecDepth 20000 in
theorem v_Mo_set : Yw y_Mo_set b_Mo_set 5 (some .int) 3 := ⟨gw_t 644 rfl rfl, gw_t 8 (by decide +kernel) (by decide +kernel), by decide +kernel, by decide⟩
theorem i_Mo_set : Cond.instanceMethod y_Mo_set ∈ gw := gw_t 642 (by decide +kernel) (by decide +kernel)
theorem z_Mo_set : Cond.selects y_Mo_set.cls y_Mo_set y_Mo_set ∈ gw := gw_t 643 (by decide +kernel) (by decide +kernel)
set_option maxRecDepth 20000 in
theorem v_Mo_get : Yw y_Mo_get b_Mo_get 3 (some .int) 2 := ⟨gw_t 659 rfl rfl, gw_t 8 (by decide +kernel) (by decide +kernel), by decide +kernel, by decide⟩
theorem i_Mo_get : Cond.instanceMethod y_Mo_get ∈ gw := gw_t 657 (by decide +kernel) (by decide +kernel)
theorem z_Mo_get : Cond.selects y_Mo_get.cls y_Mo_get y_Mo_get ∈ gw := gw_t 658 (by decide +kernel) (by decide +kernel)
set_option maxRecDepth 20000 in
theorem v_Mo_slope : Yw y_Mo_slope b_Mo_slope 3 (some .int) 2 := ⟨gw_t 663 rfl rfl, gw_t 8 (by decide +kernel) (by decide +kernel), by decide +kernel, by decide⟩
theorem i_Mo_slope : Cond.instanceMethod y_Mo_slope ∈ gw := gw_t 661 (by decide +kernel) (by decide +kernel)
theorem z_Mo_slope : Cond.selects y_Mo_slope.cls y_Mo_slope y_Mo_slope ∈ gw := gw_t 662 (by decide +kernel) (by decide +kernel)
set_option maxRecDepth 20000 in
theorem v_Mo_cup : Yw y_Mo_cup b_Mo_cup 6 (some .int) 3 := ⟨gw_t 691 rfl rfl, gw_t 8 (by decide +kernel) (by decide +kernel), by decide +kernel, by decide⟩
theorem i_Mo_cup : Cond.instanceMethod y_Mo_cup ∈ gw := gw_t 689 (by decide +kernel) (by decide +kernel)
theorem z_Mo_cup : Cond.selects y_Mo_cup.cls y_Mo_cup y_Mo_cup ∈ gw := gw_t 690 (by decide +kernel) (by decide +kernel)
set_option maxRecDepth 20000 in
theorem v_Mo_about : Yw y_Mo_about b_Mo_about 6 (some .int) 2 := ⟨gw_t 705 rfl rfl, gw_t 8 (by decide +kernel) (by decide +kernel), by decide +kernel, by decide⟩
theorem i_Mo_about : Cond.instanceMethod y_Mo_about ∈ gw := gw_t 703 (by decide +kernel) (by decide +kernel)
theorem z_Mo_about : Cond.selects y_Mo_about.cls y_Mo_about y_Mo_about ∈ gw := gw_t 704 (by decide +kernel) (by decide +kernel)
set_option maxRecDepth 20000 in
theorem v_Mo_holes : Yw y_Mo_holes b_Mo_holes 2 (some .int) 1 := ⟨gw_t 714 rfl rfl, gw_t 8 (by decide +kernel) (by decide +kernel), by decide +kernel, by decide⟩
theorem i_Mo_holes : Cond.instanceMethod y_Mo_holes ∈ gw := gw_t 712 (by decide +kernel) (by decide +kernel)
theorem z_Mo_holes : Cond.selects y_Mo_holes.cls y_Mo_holes y_Mo_holes ∈ gw := gw_t 713 (by decide +kernel) (by decide +kernel)
set_option maxRecDepth 20000 in
theorem v_Mo_splits : Yw y_Mo_splits b_Mo_splits 5 (none) 1 := ⟨gw_t 756 rfl rfl, gw_t 8 (by decide +kernel) (by decide +kernel), by decide +kernel, by decide⟩
theorem i_Mo_splits : Cond.instanceMethod y_Mo_splits ∈ gw := gw_t 755 (by decide +kernel) (by decide +kernel)
theorem z_Mo_splits : Cond.selects y_Mo_splits.cls y_Mo_splits y_Mo_splits ∈ gw := gw_s 39 (by decide +kernel) (by decide +kernel)
set_option maxRecDepth 20000 in
theorem v_Mo_field : Yw y_Mo_field b_Mo_field 1 (some .int) 0 := ⟨gw_t 783 rfl rfl, gw_t 8 (by decide +kernel) (by decide +kernel), by decide +kernel, by decide⟩
theorem i_Mo_field : Cond.instanceMethod y_Mo_field ∈ gw := gw_t 781 (by decide +kernel) (by decide +kernel)
theorem z_Mo_field : Cond.selects y_Mo_field.cls y_Mo_field y_Mo_field ∈ gw := gw_t 782 (by decide +kernel) (by decide +kernel)
set_option maxRecDepth 20000 in
theorem v_Mo_fieldAt : Yw y_Mo_fieldAt b_Mo_fieldAt 7 (some .long) 2 := ⟨gw_t 791 rfl rfl, gw_t 8 (by decide +kernel) (by decide +kernel), by decide +kernel, by decide⟩
theorem i_Mo_fieldAt : Cond.instanceMethod y_Mo_fieldAt ∈ gw := gw_t 789 (by decide +kernel) (by decide +kernel)
theorem z_Mo_fieldAt : Cond.selects y_Mo_fieldAt.cls y_Mo_fieldAt y_Mo_fieldAt ∈ gw := gw_t 790 (by decide +kernel) (by decide +kernel)
set_option maxRecDepth 20000 in
theorem v_Mo_digest : Yw y_Mo_digest b_Mo_digest 5 (some .long) 0 := ⟨gw_t 829 rfl rfl, gw_t 8 (by decide +kernel) (by decide +kernel), by decide +kernel, by decide⟩
theorem i_Mo_digest : Cond.instanceMethod y_Mo_digest ∈ gw := gw_t 827 (by decide +kernel) (by decide +kernel)
theorem z_Mo_digest : Cond.selects y_Mo_digest.cls y_Mo_digest y_Mo_digest ∈ gw := gw_t 828 (by decide +kernel) (by decide +kernel)
set_option maxRecDepth 20000 in
theorem v_Nf_holes : Yw y_Nf_holes b_Nf_holes 4 (some .int) 1 := ⟨gw_t 340 rfl rfl, gw_t 1 (by decide +kernel) (by decide +kernel), by decide +kernel, by decide⟩
theorem i_Nf_holes : Cond.instanceMethod y_Nf_holes ∈ gw := gw_t 338 (by decide +kernel) (by decide +kernel)
theorem z_Nf_holes : Cond.selects y_Nf_holes.cls y_Nf_holes y_Nf_holes ∈ gw := gw_t 339 (by decide +kernel) (by decide +kernel)
set_option maxRecDepth 20000 in
theorem v_Nf_stillPart : Yw y_Nf_stillPart b_Nf_stillPart 16 (some .long) 3 := ⟨gw_t 426 rfl rfl, gw_t 1 (by decide +kernel) (by decide +kernel), by decide +kernel, by decide⟩
theorem i_Nf_stillPart : Cond.instanceMethod y_Nf_stillPart ∈ gw := gw_t 425 (by decide +kernel) (by decide +kernel)
theorem z_Nf_stillPart : Cond.selects y_Nf_stillPart.cls y_Nf_stillPart y_Nf_stillPart ∈ gw := gw_s 13 (by decide +kernel) (by decide +kernel)
set_option maxRecDepth 20000 in
theorem v_Nf_fieldAt : Yw y_Nf_fieldAt b_Nf_fieldAt 3 (some .long) 2 := ⟨gw_t 451 rfl rfl, gw_t 1 (by decide +kernel) (by decide +kernel), by decide +kernel, by decide⟩
theorem i_Nf_fieldAt : Cond.instanceMethod y_Nf_fieldAt ∈ gw := gw_t 449 (by decide +kernel) (by decide +kernel)
theorem z_Nf_fieldAt : Cond.selects y_Nf_fieldAt.cls y_Nf_fieldAt y_Nf_fieldAt ∈ gw := gw_t 450 (by decide +kernel) (by decide +kernel)
set_option maxRecDepth 20000 in
theorem v_Mo_split : Yw y_Mo_split b_Mo_split 7 (some .long) 4 := ⟨gw_t 751 rfl rfl, gw_t 8 (by decide +kernel) (by decide +kernel), by decide +kernel, by decide⟩
theorem i_Mo_split : Cond.instanceMethod y_Mo_split ∈ gw := gw_t 749 (by decide +kernel) (by decide +kernel)
theorem z_Mo_split : Cond.selects y_Mo_split.cls y_Mo_split y_Mo_split ∈ gw := gw_t 750 (by decide +kernel) (by decide +kernel)
set_option maxRecDepth 20000 in
theorem v_Nf_split : Yw y_Nf_split b_Nf_split 8 (some .long) 4 := ⟨gw_t 394 rfl rfl, gw_t 1 (by decide +kernel) (by decide +kernel), by decide +kernel, by decide⟩
theorem i_Nf_split : Cond.instanceMethod y_Nf_split ∈ gw := gw_t 392 (by decide +kernel) (by decide +kernel)
theorem z_Nf_split : Cond.selects y_Nf_split.cls y_Nf_split y_Nf_split ∈ gw := gw_t 393 (by decide +kernel) (by decide +kernel)
