/-! THE CLAIM OUT OF ONE WALK OF THE LAW'S BODY. Your part is whole_start (and what it stands on); all else here is the same for every law, but numbers. -/
def R_law : String := "NetFormsLaw"
def lw_P (b : Addr) (xs : List Int32) (args : Array Value) (s : State) : Prop := args = #[.ref b] ∧ s.IntsAt b xs ∧ xs.length ≤ 3072 ∧ (Jvm.Cond.and given_1 narrow_1).before args s = true
def lw_Q (_ : Array Value) (s : State) (o : Outcome) (t : State) : Prop := o = .returned (some (.int 1)) ∧ Framed s o t [] 600000 7302250
def lw_Z (below : List Frame) (a : Array Value) (s : State) : State → Prop := fun t => ∃ o, t.status = .running ∧ Ended t below o ∧ lw_Q a s o t
/-- the law's own end, with 1 on the stack, nothing written that was there before, its room as the claim has it -/
theorem lw_ret {p : Program} {l : Launch} {e : Env} {s : State} {m : MethodId} {below : List Frame} {meth : Method} {c : Code} {b : Nat} (hx : p.tables.exec = Jvm.exec) (hb : c.code = code) (hr : meth.sig.returnType = ret) (hlocks : meth.locks = false) {pc : Nat} {H : Heap} {ls : Array Slot} (hdg : decode code pc = .ok (.ireturn, 1)) : W p l e room_1 s m #[Value.ref b] below meth c H [] 600000 7302250 (lw_Z below #[Value.ref b] s) (F0 m pc ls [.int 1]) := by
  intro T hT X
  obtain ⟨fs, hret, hrun, hended, hW, hframe⟩ := X.leave (v := some (.int 1)) (hlocks := hlocks) (fun h => by rw [hr] at h; cases h)
  have hmeth' : T.vm.method? m = some meth := X.method'
  refine ⟨T.setFrames fs, ?_, .returned (some (.int 1)), hrun, hended, rfl, ⟨_, rfl⟩, hW, hframe⟩
  jvm_step X.here [X.here.top, hx, hb, hdg, hmeth', hr, ret, narrow_b1]
  (try refine ⟨rfl, ?_⟩); (try refine ⟨rfl, ?_⟩)
  first | (intro acts; rw [hret _ acts rfl rfl rfl]) | rw [hret _ _ rfl rfl rfl]
  exact Steps.refl _
/-- what holds at the law's entry: the machine, the code, the tables' words (any of lw_tbl by 'hts w (by decide +kernel)'), the script of L ints xs at the cell b, what the Statement gives of the start (any of its parts by flat_of_before) -/
def lw_At (p : Program) (s : State) (m : MethodId) (meth : Method) (c : Code) (b L : Nat) (xs : Nat → Int32) : Prop :=
  p.tables.exec = Jvm.exec ∧ c.code = code ∧ meth.sig.returnType = ret ∧ c.maxLocals = 4 ∧ s.vm.findClass R_law = some m.cls ∧ (∀ w ∈ lw_tbl, w.before #[Value.ref b] s = true) ∧ va_X b L xs s s.heap ∧ b < s.heap.size ∧ meth.locks = false ∧ (Jvm.Cond.and given_1 narrow_1).before #[Value.ref b] s = true
set_option maxRecDepth 100000 in
theorem law_E {γ : Gm} {κ : Kp} {b L : Nat} {xs : Nat → Int32} (hL : L ≤ 3072) (C : CE γ κ "NetFormsLaw" code 4 room_1) (hk0 : κ.1 = γ.2.2.2.2.1.heap.size) (ha : γ.2.2.2.2.2.2.1 = #[Value.ref b]) (hr : γ.2.2.2.2.2.2.2.2.1.sig.returnType = ret) (hlocks : γ.2.2.2.2.2.2.2.2.1.locks = false) (hX : va_X b L xs γ.2.2.2.2.1 γ.2.2.2.2.1.heap) (hbl : b < γ.2.2.2.2.1.heap.size) (E : Nat → va_E) : GE γ κ 4 (lw_Z γ.2.2.2.2.2.2.2.1 #[Value.ref b] γ.2.2.2.2.1) 0 [(0, .ref b)] [] 0 E 0 0 := by
  refine E_new C (ci := 6) (N := 7) (CN := R_Nf) (T := T_Nf) (fs := [.null, .null, .null, .null, .null, .null, .null]) rfl in_Nf ty_Nf tk_Nf wk_11 wk_12 wk_1 df_Nf (by decide) (by decide) d_Law_0 ?_
  refine E_dup C d_Law_3 rfl ?_
  refine E_callI C (k := 0) (c_Nf_init rfl) v_Nf_init rfl wk_14 wk_13 ⟨rfl, rfl⟩ ⟨by decide, by decide⟩ ⟨by decide, by decide⟩ (Nat.le_of_ble_eq_true rfl) d_Law_4 ?_
  refine E_astore_n C (lv' := [(1, .ref (κ.1 + 0)), (0, .ref b)]) d_Law_7 rfl (by decide) rfl ?_
  refine E_new C (ci := 7) (N := 26) (CN := R_Mo) (T := T_Mo) (fs := [.int 0, .int 0, .int 0, .null, .null, .null, .null, .null, .null, .null, .null, .null, .null, .null, .int 0, .null, .null, .null, .long 0, .null, .null, .null, .null, .null, .long 0, .long 0]) rfl in_Mo ty_Mo tk_Mo wk_515 wk_516 wk_8 df_Mo (by decide) (by decide) d_Law_8 ?_
  refine E_dup C d_Law_11 rfl ?_
  refine E_callI C (k := 56) (c_Mo_init (k := 56) (n := 57) (by decide) rfl) v_Mo_init rfl wk_518 wk_517 ⟨rfl, rfl⟩ ⟨by decide, by decide⟩ ⟨by decide, by decide⟩ (Nat.le_of_ble_eq_true rfl) d_Law_12 ?_
  refine E_astore_n C (lv' := [(2, .ref (κ.1 + 56)), (1, .ref (κ.1 + 0)), (0, .ref b)]) d_Law_15 rfl (by decide) rfl ?_
  refine E_iconst C (v := 0) d_Law_16 (by decide) ?_
  refine E_istore_n C (lv' := [(3, .int 0), (2, .ref (κ.1 + 56)), (1, .ref (κ.1 + 0)), (0, .ref b)]) d_Law_17 rfl (by decide) rfl ?_
  have Cx' : Cx γ κ "NetFormsLaw" code 4 7 (76, 936) := ⟨C.1, C.2.1, C.2.2.1, C.2.2.2.1, C.2.2.2.2.1, C.2.2.2.2.2.1.1, by rw [C.2.2.2.2.2.2]; exact ⟨by decide, by decide⟩, by rw [C.2.2.2.2.2.2]; decide, by rw [C.2.2.2.2.2.2]; decide⟩
  have hend : ∀ M', True → G γ κ 4 (76, 936) (lw_Z γ.2.2.2.2.2.2.2.1 #[Value.ref b] γ.2.2.2.2.1) 972 [] [] M' := fun M' _ H locs ls hP hS hl => by
    refine lv_iconst (v := 1) C.1 C.2.1 d_Law_972 (by decide) ?_
    refine va_forget (fun q hq => by rw [← hk0]; exact hS.2.2 q hq) ?_
    refine W.widen (k := 600000) (n := 7302250) (by show 76 ≤ 600000; omega) (by show 936 ≤ 7302250; omega) ?_
    obtain ⟨p, l, e, R, s, m, args, below, meth, c⟩ := γ
    dsimp only at ha hr hlocks C ⊢
    have hR : R = room_1 := C.2.2.2.2.2.2
    subst ha
    subst hR
    exact lw_ret C.1 C.2.1 hr hlocks d_Law_973
  intro H locs ls hP hS hl
  exact s_Law_L18 Cx' hX hbl (by show ¬ κ.1 ≤ b; omega) hend (L + 1) (nI 0) Mz (law_run (by omega) (L + 1) 0 Sz Mz (Nat.zero_le _) (by omega) Sz_wf Sz_rc Sz_rm) H locs ls (hp_start hP) hS (lv_sub hl [3, 2, 1, 0] rfl)
/-- from the entry, for every script of at most 3072 ints, the law comes to its end with true -/
theorem whole_start {p : Program} {e : Env} {s : State} {m : MethodId} {below : List Frame} {meth : Method} {c : Code} (l : Launch) {b L : Nat} {xs : Nat → Int32} (hL : L ≤ 3072) (C0 : lw_At p s m meth c b L xs) : W p l e room_1 s m #[Value.ref b] below meth c s.heap [] 0 0 (lw_Z below #[Value.ref b] s) (entryFrame m ([Value.ref b] : List Value).toArray 4) := by
  obtain ⟨hx, hb, hr, hml, hown, hts, hX, hbl, hlocks, hgv⟩ := id C0
  obtain ⟨κ, hk0, hKX⟩ := law_known hts
  have hl := lv_entry ([.ref b]) (n := 4) (Nat.le_of_ble_eq_true rfl)
  rw [lg_entry_eq]
  generalize (lg_sl ([.ref b]) ++ List.replicate (4 - (lg_sl ([.ref b])).length) Slot.unset).toArray = ls at hl ⊢
  have hl : lv_has ls 4 [(0, .ref b)] := hl
  have C : CE (p, l, e, room_1, s, m, #[Value.ref b], below, meth, c) κ "NetFormsLaw" code 4 room_1 := ⟨hx, hb, hml, hown, fun w hw => hts w (gw_lw w hw), hKX, rfl⟩
  exact law_E hL C hk0 rfl hr hlocks hX hbl (fun _ => .inr (0, [])) s.heap [] ls ⟨fun k q h => by simp [wlp] at h, by rw [hk0]; rfl⟩ va_S.rf hl
