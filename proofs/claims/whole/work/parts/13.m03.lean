theorem d_Nf_makeSlope_0 : decode b_Nf_makeSlope 0 = .ok (.aload_n 1, 1) := by decide +kernel
theorem d_Nf_makeSlope_1 : decode b_Nf_makeSlope 1 = .ok (.getfield 95, 3) := by decide +kernel
theorem d_Nf_makeSlope_4 : decode b_Nf_makeSlope 4 = .ok (.istore_n 2, 1) := by decide +kernel
theorem d_Nf_makeSlope_5 : decode b_Nf_makeSlope 5 = .ok (.iconst 0, 1) := by decide +kernel
theorem d_Nf_makeSlope_6 : decode b_Nf_makeSlope 6 = .ok (.istore_n 3, 1) := by decide +kernel
theorem d_Nf_makeSlope_7 : decode b_Nf_makeSlope 7 = .ok (.iload_n 3, 1) := by decide +kernel
theorem d_Nf_makeSlope_8 : decode b_Nf_makeSlope 8 = .ok (.aload_n 0, 1) := by decide +kernel
theorem d_Nf_makeSlope_9 : decode b_Nf_makeSlope 9 = .ok (.getfield 10, 3) := by decide +kernel
theorem d_Nf_makeSlope_12 : decode b_Nf_makeSlope 12 = .ok (.iload_n 2, 1) := by decide +kernel
theorem d_Nf_makeSlope_13 : decode b_Nf_makeSlope 13 = .ok (.iconst 1, 1) := by decide +kernel
theorem d_Nf_makeSlope_14 : decode b_Nf_makeSlope 14 = .ok (.iadd, 1) := by decide +kernel
theorem d_Nf_makeSlope_15 : decode b_Nf_makeSlope 15 = .ok (.invokevirtual 119, 3) := by decide +kernel
theorem d_Nf_makeSlope_18 : decode b_Nf_makeSlope 18 = .ok (.if_icmp .ge 70, 3) := by decide +kernel
theorem d_Nf_makeSlope_21 : decode b_Nf_makeSlope 21 = .ok (.lconst 0, 1) := by decide +kernel
theorem d_Nf_makeSlope_22 : decode b_Nf_makeSlope 22 = .ok (.lstore 4, 2) := by decide +kernel
theorem d_Nf_makeSlope_24 : decode b_Nf_makeSlope 24 = .ok (.iconst 0, 1) := by decide +kernel
theorem d_Nf_makeSlope_25 : decode b_Nf_makeSlope 25 = .ok (.istore 6, 2) := by decide +kernel
theorem d_Nf_makeSlope_27 : decode b_Nf_makeSlope 27 = .ok (.iload 6, 2) := by decide +kernel
theorem d_Nf_makeSlope_29 : decode b_Nf_makeSlope 29 = .ok (.aload_n 0, 1) := by decide +kernel
theorem d_Nf_makeSlope_30 : decode b_Nf_makeSlope 30 = .ok (.getfield 10, 3) := by decide +kernel
theorem d_Nf_makeSlope_33 : decode b_Nf_makeSlope 33 = .ok (.iload_n 2, 1) := by decide +kernel
theorem d_Nf_makeSlope_34 : decode b_Nf_makeSlope 34 = .ok (.invokevirtual 119, 3) := by decide +kernel
theorem d_Nf_makeSlope_37 : decode b_Nf_makeSlope 37 = .ok (.if_icmp .ge 37, 3) := by decide +kernel
theorem d_Nf_makeSlope_40 : decode b_Nf_makeSlope 40 = .ok (.lload 4, 2) := by decide +kernel
theorem d_Nf_makeSlope_42 : decode b_Nf_makeSlope 42 = .ok (.aload_n 0, 1) := by decide +kernel
theorem d_Nf_makeSlope_43 : decode b_Nf_makeSlope 43 = .ok (.getfield 10, 3) := by decide +kernel
theorem d_Nf_makeSlope_46 : decode b_Nf_makeSlope 46 = .ok (.iload_n 2, 1) := by decide +kernel
theorem d_Nf_makeSlope_47 : decode b_Nf_makeSlope 47 = .ok (.iconst 1, 1) := by decide +kernel
theorem d_Nf_makeSlope_48 : decode b_Nf_makeSlope 48 = .ok (.iadd, 1) := by decide +kernel
theorem d_Nf_makeSlope_49 : decode b_Nf_makeSlope 49 = .ok (.iload_n 3, 1) := by decide +kernel
theorem d_Nf_makeSlope_50 : decode b_Nf_makeSlope 50 = .ok (.iload 6, 2) := by decide +kernel
theorem d_Nf_makeSlope_52 : decode b_Nf_makeSlope 52 = .ok (.invokevirtual 232, 3) := by decide +kernel
theorem d_Nf_makeSlope_55 : decode b_Nf_makeSlope 55 = .ok (.i2l, 1) := by decide +kernel
theorem d_Nf_makeSlope_56 : decode b_Nf_makeSlope 56 = .ok (.aload_n 1, 1) := by decide +kernel
theorem d_Nf_makeSlope_57 : decode b_Nf_makeSlope 57 = .ok (.getfield 104, 3) := by decide +kernel
theorem d_Nf_makeSlope_60 : decode b_Nf_makeSlope 60 = .ok (.iload 6, 2) := by decide +kernel
theorem d_Nf_makeSlope_62 : decode b_Nf_makeSlope 62 = .ok (.iaload, 1) := by decide +kernel
theorem d_Nf_makeSlope_63 : decode b_Nf_makeSlope 63 = .ok (.i2l, 1) := by decide +kernel
theorem d_Nf_makeSlope_64 : decode b_Nf_makeSlope 64 = .ok (.lmul, 1) := by decide +kernel
theorem d_Nf_makeSlope_65 : decode b_Nf_makeSlope 65 = .ok (.ladd, 1) := by decide +kernel
theorem d_Nf_makeSlope_66 : decode b_Nf_makeSlope 66 = .ok (.lstore 4, 2) := by decide +kernel
theorem d_Nf_makeSlope_68 : decode b_Nf_makeSlope 68 = .ok (.iinc 6 1, 3) := by decide +kernel
theorem d_Nf_makeSlope_71 : decode b_Nf_makeSlope 71 = .ok (.goto (-44), 3) := by decide +kernel
theorem d_Nf_makeSlope_74 : decode b_Nf_makeSlope 74 = .ok (.aload_n 0, 1) := by decide +kernel
theorem d_Nf_makeSlope_75 : decode b_Nf_makeSlope 75 = .ok (.getfield 50, 3) := by decide +kernel
theorem d_Nf_makeSlope_78 : decode b_Nf_makeSlope 78 = .ok (.iload_n 3, 1) := by decide +kernel
theorem d_Nf_makeSlope_79 : decode b_Nf_makeSlope 79 = .ok (.lload 4, 2) := by decide +kernel
theorem d_Nf_makeSlope_81 : decode b_Nf_makeSlope 81 = .ok (.lastore, 1) := by decide +kernel
theorem d_Nf_makeSlope_82 : decode b_Nf_makeSlope 82 = .ok (.iinc 3 1, 3) := by decide +kernel
theorem d_Nf_makeSlope_85 : decode b_Nf_makeSlope 85 = .ok (.goto (-78), 3) := by decide +kernel
theorem d_Nf_makeSlope_88 : decode b_Nf_makeSlope 88 = .ok (.return_, 1) := by decide +kernel
def q_Nf_makeSlope_L27 (g1 : Nat) (kx74 : Int32 → Int32 → Int64 → Mem → Prop) (post : Mem → Prop) : Nat → Int32 → Int32 → Int64 → Int32 → Mem → Prop
  | 0, _, _, _, _, _ => False
  | n + 1, x2, x3, x4, x6, M => q_Net_size x2 M (fun r4 M3 => (r4 ≤ x6 → kx74 x2 x3 x4 M3) ∧ (¬ r4 ≤ x6 → q_Net_signOf (x2 + (1 : Int32)) x3 x6 M3 (fun r6 M5 => vp_in x6 12 ∧ (q_Nf_makeSlope_L27 g1 kx74 post n x2 x3 (x4 + (r6.toInt64 * ((M5.1 (33 + 2 * g1) x6.toNatClampNeg).toInt64))) (x6 + 1) M5))))
set_option maxHeartbeats 4000000 in
theorem s_Nf_makeSlope_L27 {γ : Gm} {κ : Kp} {post : Mem → Prop} {g1 : Nat} {kx74 : Int32 → Int32 → Int64 → Mem → Prop} (C : Cx γ κ "NetForms" b_Nf_makeSlope 7 1 (0, 0)) (R : Rt γ (none)) (h_g1 : g1 < 12) (hx74 : ∀ y2 y3 y4 M', kx74 y2 y3 y4 M' → G γ κ 7 (0, 0) (Gq γ κ (pV post)) 74 [(0, .ref (κ.1 + 0)), (1, .ref (κ.1 + (32 + 2 * g1))), (2, .int y2), (3, .int y3), (4, .long y4)] [] M') : ∀ (n : Nat) (x2 : Int32) (x3 : Int32) (x4 : Int64) (x6 : Int32) (M : Mem), q_Nf_makeSlope_L27 g1 kx74 post n x2 x3 x4 x6 M → G γ κ 7 (0, 0) (Gq γ κ (pV post)) 27 [(0, .ref (κ.1 + 0)), (1, .ref (κ.1 + (32 + 2 * g1))), (2, .int x2), (3, .int x3), (4, .long x4), (6, .int x6)] [] M := by
  intro n
  induction n with
  | zero => intro x2 x3 x4 x6 M hq; exact hq.elim
  | succ n ih =>
    intro x2 x3 x4 x6 M hq
    unfold q_Nf_makeSlope_L27 at hq
    refine G_iload C 5 d_Nf_makeSlope_27 rfl ?_
    refine G_aload_n C 0 d_Nf_makeSlope_29 rfl rfl ?_
    refine Gg_Nf_shape C wd_163 d_Nf_makeSlope_30 ?_
    refine G_iload_n C 2 d_Nf_makeSlope_33 rfl rfl ?_
    refine G_callV C (s_Net_size hq) v_Net_size i_Net_size z_Net_size wd_282 (by decide) rfl (k := 1) (ci := 3) (by decide) rfl rfl rfl (rest := [_]) (by rfl) (Nat.le_of_ble_eq_true rfl) d_Nf_makeSlope_34 (ki_ (fun r4 M3 hq => ?_))
    refine G_icmp_ge C (tgt := 74) d_Nf_makeSlope_37 (by decide) (fun c => ?_) (fun c => ?_)
    · replace hq := hq.1 c
      exact G_sub [0, 1, 2, 3, 4] (by rfl) (hx74 _ _ _ _ hq)
    · replace hq := hq.2 c
      refine G_lload C 4 d_Nf_makeSlope_40 rfl ?_
      refine G_aload_n C 0 d_Nf_makeSlope_42 rfl rfl ?_
      refine Gg_Nf_shape C wd_163 d_Nf_makeSlope_43 ?_
      refine G_iload_n C 2 d_Nf_makeSlope_46 rfl rfl ?_
      refine G_iconst C (v := 1) d_Nf_makeSlope_47 (by decide) ?_
      refine G_iadd C d_Nf_makeSlope_48 ?_
      refine G_iload_n C 3 d_Nf_makeSlope_49 rfl rfl ?_
      refine G_iload C 5 d_Nf_makeSlope_50 rfl ?_
      refine G_callV C (s_Net_signOf hq) v_Net_signOf i_Net_signOf z_Net_signOf wd_283 (by decide) rfl (k := 1) (ci := 3) (by decide) rfl rfl rfl (rest := [_]) (by rfl) (Nat.le_of_ble_eq_true rfl) d_Nf_makeSlope_52 (ki_ (fun r6 M5 hq => ?_))
      refine G_i2l C d_Nf_makeSlope_55 ?_
      refine G_aload_n C 1 d_Nf_makeSlope_56 rfl rfl ?_
      refine Gg_Frm_numbers C h_g1 wd_153 d_Nf_makeSlope_57 ?_
      refine G_iload C 5 d_Nf_makeSlope_60 rfl ?_
      refine G_iaload C (by have := h_g1; omega) (sh_formA κ h_g1) hq.1 d_Nf_makeSlope_62 ?_
      replace hq := hq.2
      refine G_i2l C d_Nf_makeSlope_63 ?_
      refine G_lmul C d_Nf_makeSlope_64 ?_
      refine G_ladd C d_Nf_makeSlope_65 ?_
      refine G_lstore C (lv' := [(4, _), (0, _), (1, _), (2, _), (3, _), (6, _)]) d_Nf_makeSlope_66 (by decide) rfl ?_
      refine G_iinc C (v := _ + 1) (lv' := [(6, _), (4, _), (0, _), (1, _), (2, _), (3, _)]) 5 d_Nf_makeSlope_68 rfl rfl (by decide) rfl ?_
      refine G_goto C (tgt := 27) d_Nf_makeSlope_71 (by decide) ?_
      exact G_sub [2, 3, 4, 5, 1, 0] (by rfl) (ih _ _ _ _ _ hq)
def q_Nf_makeSlope_L7 (g1 : Nat) (kx88 : Mem → Prop) (post : Mem → Prop) : Nat → Int32 → Int32 → Mem → Prop
  | 0, _, _, _ => False
  | n + 1, x2, x3, M => q_Net_size (x2 + (1 : Int32)) M (fun r2 M1 => (r2 ≤ x3 → kx88 M1) ∧ (¬ r2 ≤ x3 → ∃ n7, q_Nf_makeSlope_L27 g1 (fun x8 x9 x10 M11 => vp_in x9 12 ∧ (∀ M12, M12 = wJ M11 31 x9.toNatClampNeg x10 → q_Nf_makeSlope_L7 g1 kx88 post n x8 (x9 + 1) M12)) post n7 x2 x3 (0 : Int64) (0 : Int32) M1))
set_option maxHeartbeats 4000000 in
theorem s_Nf_makeSlope_L7 {γ : Gm} {κ : Kp} {post : Mem → Prop} {g1 : Nat} {kx88 : Mem → Prop} (C : Cx γ κ "NetForms" b_Nf_makeSlope 7 1 (0, 0)) (R : Rt γ (none)) (h_g1 : g1 < 12) (hx88 : ∀ M', kx88 M' → G γ κ 7 (0, 0) (Gq γ κ (pV post)) 88 [] [] M') : ∀ (n : Nat) (x2 : Int32) (x3 : Int32) (M : Mem), q_Nf_makeSlope_L7 g1 kx88 post n x2 x3 M → G γ κ 7 (0, 0) (Gq γ κ (pV post)) 7 [(0, .ref (κ.1 + 0)), (1, .ref (κ.1 + (32 + 2 * g1))), (2, .int x2), (3, .int x3)] [] M := by
  intro n
  induction n with
  | zero => intro x2 x3 M hq; exact hq.elim
  | succ n ih =>
    intro x2 x3 M hq
    unfold q_Nf_makeSlope_L7 at hq
    refine G_iload_n C 3 d_Nf_makeSlope_7 rfl rfl ?_
    refine G_aload_n C 0 d_Nf_makeSlope_8 rfl rfl ?_
    refine Gg_Nf_shape C wd_163 d_Nf_makeSlope_9 ?_
    refine G_iload_n C 2 d_Nf_makeSlope_12 rfl rfl ?_
    refine G_iconst C (v := 1) d_Nf_makeSlope_13 (by decide) ?_
    refine G_iadd C d_Nf_makeSlope_14 ?_
    refine G_callV C (s_Net_size hq) v_Net_size i_Net_size z_Net_size wd_282 (by decide) rfl (k := 1) (ci := 3) (by decide) rfl rfl rfl (rest := [_]) (by rfl) (Nat.le_of_ble_eq_true rfl) d_Nf_makeSlope_15 (ki_ (fun r2 M1 hq => ?_))
    refine G_icmp_ge C (tgt := 88) d_Nf_makeSlope_18 (by decide) (fun c => ?_) (fun c => ?_)
    · replace hq := hq.1 c
      exact G_sub [] (by rfl) (hx88 _ hq)
    · replace hq := hq.2 c
      refine G_lconst C (v := 0) d_Nf_makeSlope_21 (by decide) ?_
      refine G_lstore C (lv' := [(4, _), (0, _), (1, _), (2, _), (3, _)]) d_Nf_makeSlope_22 (by decide) rfl ?_
      refine G_iconst C (v := 0) d_Nf_makeSlope_24 (by decide) ?_
      refine G_istore C (lv' := [(6, _), (4, _), (0, _), (1, _), (2, _), (3, _)]) d_Nf_makeSlope_25 (by decide) rfl ?_
      obtain ⟨n7, hq⟩ := hq
      refine G_sub [2, 3, 4, 5, 1, 0] (by rfl) (s_Nf_makeSlope_L27 C R h_g1 ?_ n7 _ _ _ _ _ hq)
      · intro x8 x9 x10 M11 hq
        refine G_aload_n C 0 d_Nf_makeSlope_74 rfl rfl ?_
        refine Gg_Nf_made C wd_169 d_Nf_makeSlope_75 ?_
        refine G_iload_n C 3 d_Nf_makeSlope_78 rfl rfl ?_
        refine G_lload C 4 d_Nf_makeSlope_79 rfl ?_
        refine G_lastore C (k := 31) (by decide) (fun _ _ => rfl) hq.1 d_Nf_makeSlope_81 ?_
        replace hq := hq.2 _ rfl
        refine G_iinc C (v := _ + 1) (lv' := [(3, _), (0, _), (1, _), (2, _), (4, _)]) 3 d_Nf_makeSlope_82 rfl rfl (by decide) rfl ?_
        refine G_goto C (tgt := 7) d_Nf_makeSlope_85 (by decide) ?_
        exact G_sub [1, 2, 3, 0] (by rfl) (ih _ _ _ hq)
def q_Nf_makeSlope (f1 : Nat) (M : Mem) (post : Mem → Prop) : Prop := ∃ n13, q_Nf_makeSlope_L7 f1 (fun M14 => post M14) post n13 (M.1 (32 + 2 * f1) 0) (0 : Int32) M
set_option maxHeartbeats 4000000 in
theorem s_Nf_makeSlope {l : Launch} {κ : Kp} {f1 : Nat} {M : Mem} {post : Mem → Prop} (h_f1 : f1 < 12) (hq : q_Nf_makeSlope f1 M post) : Ct l κ y_Nf_makeSlope b_Nf_makeSlope 7 (none) 1 [.ref (κ.1 + 0), .ref (κ.1 + (32 + 2 * f1))] M (pV post) := by
  refine Ct_of (by decide) (Nat.le_of_ble_eq_true rfl) (fun γ hγ C R => ?_)
  subst hγ
  unfold q_Nf_makeSlope at hq
  show G γ κ 7 (0, 0) (Gq γ κ (pV post)) 0 [(0, .ref (κ.1 + 0)), (1, .ref (κ.1 + (32 + 2 * f1)))] [] M
  refine G_aload_n C 1 d_Nf_makeSlope_0 rfl rfl ?_
  refine Gg_Frm_degree C h_f1 wd_150 d_Nf_makeSlope_1 ?_
  refine G_istore_n C (lv' := [(2, _), (0, _), (1, _)]) d_Nf_makeSlope_4 rfl (by decide) rfl ?_
  refine G_iconst C (v := 0) d_Nf_makeSlope_5 (by decide) ?_
  refine G_istore_n C (lv' := [(3, _), (2, _), (0, _), (1, _)]) d_Nf_makeSlope_6 rfl (by decide) rfl ?_
  obtain ⟨n13, hq⟩ := hq
  refine G_sub [2, 3, 1, 0] (by rfl) (s_Nf_makeSlope_L7 C R h_f1 ?_ n13 _ _ _ hq)
  · intro M14 hq
    exact G_vret C R d_Nf_makeSlope_88 ⟨rfl, hq⟩
theorem d_Nf_makeRim_0 : decode b_Nf_makeRim 0 = .ok (.aload_n 1, 1) := by decide +kernel
theorem d_Nf_makeRim_1 : decode b_Nf_makeRim 1 = .ok (.getfield 95, 3) := by decide +kernel
theorem d_Nf_makeRim_4 : decode b_Nf_makeRim 4 = .ok (.istore_n 2, 1) := by decide +kernel
theorem d_Nf_makeRim_5 : decode b_Nf_makeRim 5 = .ok (.iconst 0, 1) := by decide +kernel
theorem d_Nf_makeRim_6 : decode b_Nf_makeRim 6 = .ok (.istore_n 3, 1) := by decide +kernel
theorem d_Nf_makeRim_7 : decode b_Nf_makeRim 7 = .ok (.iload_n 3, 1) := by decide +kernel
theorem d_Nf_makeRim_8 : decode b_Nf_makeRim 8 = .ok (.aload_n 0, 1) := by decide +kernel
theorem d_Nf_makeRim_9 : decode b_Nf_makeRim 9 = .ok (.getfield 10, 3) := by decide +kernel
theorem d_Nf_makeRim_12 : decode b_Nf_makeRim 12 = .ok (.iload_n 2, 1) := by decide +kernel
theorem d_Nf_makeRim_13 : decode b_Nf_makeRim 13 = .ok (.iconst 1, 1) := by decide +kernel
theorem d_Nf_makeRim_14 : decode b_Nf_makeRim 14 = .ok (.isub, 1) := by decide +kernel
theorem d_Nf_makeRim_15 : decode b_Nf_makeRim 15 = .ok (.invokevirtual 119, 3) := by decide +kernel
theorem d_Nf_makeRim_18 : decode b_Nf_makeRim 18 = .ok (.if_icmp .ge 68, 3) := by decide +kernel
theorem d_Nf_makeRim_21 : decode b_Nf_makeRim 21 = .ok (.lconst 0, 1) := by decide +kernel
theorem d_Nf_makeRim_22 : decode b_Nf_makeRim 22 = .ok (.lstore 4, 2) := by decide +kernel
theorem d_Nf_makeRim_24 : decode b_Nf_makeRim 24 = .ok (.iconst 0, 1) := by decide +kernel
theorem d_Nf_makeRim_25 : decode b_Nf_makeRim 25 = .ok (.istore 6, 2) := by decide +kernel
theorem d_Nf_makeRim_27 : decode b_Nf_makeRim 27 = .ok (.iload 6, 2) := by decide +kernel
theorem d_Nf_makeRim_29 : decode b_Nf_makeRim 29 = .ok (.aload_n 0, 1) := by decide +kernel
theorem d_Nf_makeRim_30 : decode b_Nf_makeRim 30 = .ok (.getfield 10, 3) := by decide +kernel
theorem d_Nf_makeRim_33 : decode b_Nf_makeRim 33 = .ok (.iload_n 2, 1) := by decide +kernel
theorem d_Nf_makeRim_34 : decode b_Nf_makeRim 34 = .ok (.invokevirtual 119, 3) := by decide +kernel
theorem d_Nf_makeRim_37 : decode b_Nf_makeRim 37 = .ok (.if_icmp .ge 35, 3) := by decide +kernel
theorem d_Nf_makeRim_40 : decode b_Nf_makeRim 40 = .ok (.lload 4, 2) := by decide +kernel
theorem d_Nf_makeRim_42 : decode b_Nf_makeRim 42 = .ok (.aload_n 0, 1) := by decide +kernel
theorem d_Nf_makeRim_43 : decode b_Nf_makeRim 43 = .ok (.getfield 10, 3) := by decide +kernel
theorem d_Nf_makeRim_46 : decode b_Nf_makeRim 46 = .ok (.iload_n 2, 1) := by decide +kernel
theorem d_Nf_makeRim_47 : decode b_Nf_makeRim 47 = .ok (.iload 6, 2) := by decide +kernel
theorem d_Nf_makeRim_49 : decode b_Nf_makeRim 49 = .ok (.iload_n 3, 1) := by decide +kernel
theorem d_Nf_makeRim_50 : decode b_Nf_makeRim 50 = .ok (.invokevirtual 232, 3) := by decide +kernel
theorem d_Nf_makeRim_53 : decode b_Nf_makeRim 53 = .ok (.i2l, 1) := by decide +kernel
theorem d_Nf_makeRim_54 : decode b_Nf_makeRim 54 = .ok (.aload_n 1, 1) := by decide +kernel
theorem d_Nf_makeRim_55 : decode b_Nf_makeRim 55 = .ok (.getfield 104, 3) := by decide +kernel
theorem d_Nf_makeRim_58 : decode b_Nf_makeRim 58 = .ok (.iload 6, 2) := by decide +kernel
theorem d_Nf_makeRim_60 : decode b_Nf_makeRim 60 = .ok (.iaload, 1) := by decide +kernel
theorem d_Nf_makeRim_61 : decode b_Nf_makeRim 61 = .ok (.i2l, 1) := by decide +kernel
theorem d_Nf_makeRim_62 : decode b_Nf_makeRim 62 = .ok (.lmul, 1) := by decide +kernel
theorem d_Nf_makeRim_63 : decode b_Nf_makeRim 63 = .ok (.ladd, 1) := by decide +kernel
theorem d_Nf_makeRim_64 : decode b_Nf_makeRim 64 = .ok (.lstore 4, 2) := by decide +kernel
theorem d_Nf_makeRim_66 : decode b_Nf_makeRim 66 = .ok (.iinc 6 1, 3) := by decide +kernel
theorem d_Nf_makeRim_69 : decode b_Nf_makeRim 69 = .ok (.goto (-42), 3) := by decide +kernel
theorem d_Nf_makeRim_72 : decode b_Nf_makeRim 72 = .ok (.aload_n 0, 1) := by decide +kernel
theorem d_Nf_makeRim_73 : decode b_Nf_makeRim 73 = .ok (.getfield 50, 3) := by decide +kernel
theorem d_Nf_makeRim_76 : decode b_Nf_makeRim 76 = .ok (.iload_n 3, 1) := by decide +kernel
theorem d_Nf_makeRim_77 : decode b_Nf_makeRim 77 = .ok (.lload 4, 2) := by decide +kernel
theorem d_Nf_makeRim_79 : decode b_Nf_makeRim 79 = .ok (.lastore, 1) := by decide +kernel
theorem d_Nf_makeRim_80 : decode b_Nf_makeRim 80 = .ok (.iinc 3 1, 3) := by decide +kernel
theorem d_Nf_makeRim_83 : decode b_Nf_makeRim 83 = .ok (.goto (-76), 3) := by decide +kernel
theorem d_Nf_makeRim_86 : decode b_Nf_makeRim 86 = .ok (.return_, 1) := by decide +kernel
def q_Nf_makeRim_L27 (g1 : Nat) (kx72 : Int32 → Int32 → Int64 → Mem → Prop) (post : Mem → Prop) : Nat → Int32 → Int32 → Int64 → Int32 → Mem → Prop
  | 0, _, _, _, _, _ => False
  | n + 1, x2, x3, x4, x6, M => q_Net_size x2 M (fun r4 M3 => (r4 ≤ x6 → kx72 x2 x3 x4 M3) ∧ (¬ r4 ≤ x6 → q_Net_signOf x2 x6 x3 M3 (fun r6 M5 => vp_in x6 12 ∧ (q_Nf_makeRim_L27 g1 kx72 post n x2 x3 (x4 + (r6.toInt64 * ((M5.1 (33 + 2 * g1) x6.toNatClampNeg).toInt64))) (x6 + 1) M5))))
set_option maxHeartbeats 4000000 in
theorem s_Nf_makeRim_L27 {γ : Gm} {κ : Kp} {post : Mem → Prop} {g1 : Nat} {kx72 : Int32 → Int32 → Int64 → Mem → Prop} (C : Cx γ κ "NetForms" b_Nf_makeRim 7 1 (0, 0)) (R : Rt γ (none)) (h_g1 : g1 < 12) (hx72 : ∀ y2 y3 y4 M', kx72 y2 y3 y4 M' → G γ κ 7 (0, 0) (Gq γ κ (pV post)) 72 [(0, .ref (κ.1 + 0)), (1, .ref (κ.1 + (32 + 2 * g1))), (2, .int y2), (3, .int y3), (4, .long y4)] [] M') : ∀ (n : Nat) (x2 : Int32) (x3 : Int32) (x4 : Int64) (x6 : Int32) (M : Mem), q_Nf_makeRim_L27 g1 kx72 post n x2 x3 x4 x6 M → G γ κ 7 (0, 0) (Gq γ κ (pV post)) 27 [(0, .ref (κ.1 + 0)), (1, .ref (κ.1 + (32 + 2 * g1))), (2, .int x2), (3, .int x3), (4, .long x4), (6, .int x6)] [] M := by
  intro n
  induction n with
  | zero => intro x2 x3 x4 x6 M hq; exact hq.elim
  | succ n ih =>
    intro x2 x3 x4 x6 M hq
    unfold q_Nf_makeRim_L27 at hq
    refine G_iload C 5 d_Nf_makeRim_27 rfl ?_
    refine G_aload_n C 0 d_Nf_makeRim_29 rfl rfl ?_
    refine Gg_Nf_shape C wd_163 d_Nf_makeRim_30 ?_
    refine G_iload_n C 2 d_Nf_makeRim_33 rfl rfl ?_
    refine G_callV C (s_Net_size hq) v_Net_size i_Net_size z_Net_size wd_282 (by decide) rfl (k := 1) (ci := 3) (by decide) rfl rfl rfl (rest := [_]) (by rfl) (Nat.le_of_ble_eq_true rfl) d_Nf_makeRim_34 (ki_ (fun r4 M3 hq => ?_))
    refine G_icmp_ge C (tgt := 72) d_Nf_makeRim_37 (by decide) (fun c => ?_) (fun c => ?_)
    · replace hq := hq.1 c
      exact G_sub [0, 1, 2, 3, 4] (by rfl) (hx72 _ _ _ _ hq)
    · replace hq := hq.2 c
      refine G_lload C 4 d_Nf_makeRim_40 rfl ?_
      refine G_aload_n C 0 d_Nf_makeRim_42 rfl rfl ?_
      refine Gg_Nf_shape C wd_163 d_Nf_makeRim_43 ?_
      refine G_iload_n C 2 d_Nf_makeRim_46 rfl rfl ?_
      refine G_iload C 5 d_Nf_makeRim_47 rfl ?_
      refine G_iload_n C 3 d_Nf_makeRim_49 rfl rfl ?_
      refine G_callV C (s_Net_signOf hq) v_Net_signOf i_Net_signOf z_Net_signOf wd_283 (by decide) rfl (k := 1) (ci := 3) (by decide) rfl rfl rfl (rest := [_]) (by rfl) (Nat.le_of_ble_eq_true rfl) d_Nf_makeRim_50 (ki_ (fun r6 M5 hq => ?_))
      refine G_i2l C d_Nf_makeRim_53 ?_
      refine G_aload_n C 1 d_Nf_makeRim_54 rfl rfl ?_
      refine Gg_Frm_numbers C h_g1 wd_153 d_Nf_makeRim_55 ?_
      refine G_iload C 5 d_Nf_makeRim_58 rfl ?_
      refine G_iaload C (by have := h_g1; omega) (sh_formA κ h_g1) hq.1 d_Nf_makeRim_60 ?_
      replace hq := hq.2
      refine G_i2l C d_Nf_makeRim_61 ?_
      refine G_lmul C d_Nf_makeRim_62 ?_
      refine G_ladd C d_Nf_makeRim_63 ?_
      refine G_lstore C (lv' := [(4, _), (0, _), (1, _), (2, _), (3, _), (6, _)]) d_Nf_makeRim_64 (by decide) rfl ?_
      refine G_iinc C (v := _ + 1) (lv' := [(6, _), (4, _), (0, _), (1, _), (2, _), (3, _)]) 5 d_Nf_makeRim_66 rfl rfl (by decide) rfl ?_
      refine G_goto C (tgt := 27) d_Nf_makeRim_69 (by decide) ?_
      exact G_sub [2, 3, 4, 5, 1, 0] (by rfl) (ih _ _ _ _ _ hq)
def q_Nf_makeRim_L7 (g1 : Nat) (kx86 : Mem → Prop) (post : Mem → Prop) : Nat → Int32 → Int32 → Mem → Prop
  | 0, _, _, _ => False
  | n + 1, x2, x3, M => q_Net_size (x2 - (1 : Int32)) M (fun r2 M1 => (r2 ≤ x3 → kx86 M1) ∧ (¬ r2 ≤ x3 → ∃ n7, q_Nf_makeRim_L27 g1 (fun x8 x9 x10 M11 => vp_in x9 12 ∧ (∀ M12, M12 = wJ M11 31 x9.toNatClampNeg x10 → q_Nf_makeRim_L7 g1 kx86 post n x8 (x9 + 1) M12)) post n7 x2 x3 (0 : Int64) (0 : Int32) M1))
set_option maxHeartbeats 4000000 in
theorem s_Nf_makeRim_L7 {γ : Gm} {κ : Kp} {post : Mem → Prop} {g1 : Nat} {kx86 : Mem → Prop} (C : Cx γ κ "NetForms" b_Nf_makeRim 7 1 (0, 0)) (R : Rt γ (none)) (h_g1 : g1 < 12) (hx86 : ∀ M', kx86 M' → G γ κ 7 (0, 0) (Gq γ κ (pV post)) 86 [] [] M') : ∀ (n : Nat) (x2 : Int32) (x3 : Int32) (M : Mem), q_Nf_makeRim_L7 g1 kx86 post n x2 x3 M → G γ κ 7 (0, 0) (Gq γ κ (pV post)) 7 [(0, .ref (κ.1 + 0)), (1, .ref (κ.1 + (32 + 2 * g1))), (2, .int x2), (3, .int x3)] [] M := by
  intro n
  induction n with
  | zero => intro x2 x3 M hq; exact hq.elim
  | succ n ih =>
    intro x2 x3 M hq
    unfold q_Nf_makeRim_L7 at hq
    refine G_iload_n C 3 d_Nf_makeRim_7 rfl rfl ?_
    refine G_aload_n C 0 d_Nf_makeRim_8 rfl rfl ?_
    refine Gg_Nf_shape C wd_163 d_Nf_makeRim_9 ?_
    refine G_iload_n C 2 d_Nf_makeRim_12 rfl rfl ?_
    refine G_iconst C (v := 1) d_Nf_makeRim_13 (by decide) ?_
    refine G_isub C d_Nf_makeRim_14 ?_
    refine G_callV C (s_Net_size hq) v_Net_size i_Net_size z_Net_size wd_282 (by decide) rfl (k := 1) (ci := 3) (by decide) rfl rfl rfl (rest := [_]) (by rfl) (Nat.le_of_ble_eq_true rfl) d_Nf_makeRim_15 (ki_ (fun r2 M1 hq => ?_))
    refine G_icmp_ge C (tgt := 86) d_Nf_makeRim_18 (by decide) (fun c => ?_) (fun c => ?_)
    · replace hq := hq.1 c
      exact G_sub [] (by rfl) (hx86 _ hq)
    · replace hq := hq.2 c
      refine G_lconst C (v := 0) d_Nf_makeRim_21 (by decide) ?_
      refine G_lstore C (lv' := [(4, _), (0, _), (1, _), (2, _), (3, _)]) d_Nf_makeRim_22 (by decide) rfl ?_
      refine G_iconst C (v := 0) d_Nf_makeRim_24 (by decide) ?_
      refine G_istore C (lv' := [(6, _), (4, _), (0, _), (1, _), (2, _), (3, _)]) d_Nf_makeRim_25 (by decide) rfl ?_
      obtain ⟨n7, hq⟩ := hq
      refine G_sub [2, 3, 4, 5, 1, 0] (by rfl) (s_Nf_makeRim_L27 C R h_g1 ?_ n7 _ _ _ _ _ hq)
      · intro x8 x9 x10 M11 hq
        refine G_aload_n C 0 d_Nf_makeRim_72 rfl rfl ?_
        refine Gg_Nf_made C wd_169 d_Nf_makeRim_73 ?_
        refine G_iload_n C 3 d_Nf_makeRim_76 rfl rfl ?_
        refine G_lload C 4 d_Nf_makeRim_77 rfl ?_
        refine G_lastore C (k := 31) (by decide) (fun _ _ => rfl) hq.1 d_Nf_makeRim_79 ?_
        replace hq := hq.2 _ rfl
        refine G_iinc C (v := _ + 1) (lv' := [(3, _), (0, _), (1, _), (2, _), (4, _)]) 3 d_Nf_makeRim_80 rfl rfl (by decide) rfl ?_
        refine G_goto C (tgt := 7) d_Nf_makeRim_83 (by decide) ?_
        exact G_sub [1, 2, 3, 0] (by rfl) (ih _ _ _ hq)
def q_Nf_makeRim (f1 : Nat) (M : Mem) (post : Mem → Prop) : Prop := ∃ n13, q_Nf_makeRim_L7 f1 (fun M14 => post M14) post n13 (M.1 (32 + 2 * f1) 0) (0 : Int32) M
set_option maxHeartbeats 4000000 in
theorem s_Nf_makeRim {l : Launch} {κ : Kp} {f1 : Nat} {M : Mem} {post : Mem → Prop} (h_f1 : f1 < 12) (hq : q_Nf_makeRim f1 M post) : Ct l κ y_Nf_makeRim b_Nf_makeRim 7 (none) 1 [.ref (κ.1 + 0), .ref (κ.1 + (32 + 2 * f1))] M (pV post) := by
  refine Ct_of (by decide) (Nat.le_of_ble_eq_true rfl) (fun γ hγ C R => ?_)
  subst hγ
  unfold q_Nf_makeRim at hq
  show G γ κ 7 (0, 0) (Gq γ κ (pV post)) 0 [(0, .ref (κ.1 + 0)), (1, .ref (κ.1 + (32 + 2 * f1)))] [] M
  refine G_aload_n C 1 d_Nf_makeRim_0 rfl rfl ?_
  refine Gg_Frm_degree C h_f1 wd_150 d_Nf_makeRim_1 ?_
  refine G_istore_n C (lv' := [(2, _), (0, _), (1, _)]) d_Nf_makeRim_4 rfl (by decide) rfl ?_
  refine G_iconst C (v := 0) d_Nf_makeRim_5 (by decide) ?_
  refine G_istore_n C (lv' := [(3, _), (2, _), (0, _), (1, _)]) d_Nf_makeRim_6 rfl (by decide) rfl ?_
  obtain ⟨n13, hq⟩ := hq
  refine G_sub [2, 3, 1, 0] (by rfl) (s_Nf_makeRim_L7 C R h_f1 ?_ n13 _ _ _ hq)
  · intro M14 hq
    exact G_vret C R d_Nf_makeRim_86 ⟨rfl, hq⟩
theorem d_Net_frontOf_0 : decode b_Net_frontOf 0 = .ok (.iload_n 3, 1) := by decide +kernel
theorem d_Net_frontOf_1 : decode b_Net_frontOf 1 = .ok (.iload_n 1, 1) := by decide +kernel
theorem d_Net_frontOf_2 : decode b_Net_frontOf 2 = .ok (.if_icmp .ne 5, 3) := by decide +kernel
theorem d_Net_frontOf_5 : decode b_Net_frontOf 5 = .ok (.iload_n 2, 1) := by decide +kernel
theorem d_Net_frontOf_6 : decode b_Net_frontOf 6 = .ok (.ireturn, 1) := by decide +kernel
theorem d_Net_frontOf_7 : decode b_Net_frontOf 7 = .ok (.iload_n 3, 1) := by decide +kernel
theorem d_Net_frontOf_8 : decode b_Net_frontOf 8 = .ok (.ifCond .ne 13, 3) := by decide +kernel
theorem d_Net_frontOf_11 : decode b_Net_frontOf 11 = .ok (.aload_n 0, 1) := by decide +kernel
theorem d_Net_frontOf_12 : decode b_Net_frontOf 12 = .ok (.iload_n 1, 1) := by decide +kernel
theorem d_Net_frontOf_13 : decode b_Net_frontOf 13 = .ok (.iload_n 2, 1) := by decide +kernel
theorem d_Net_frontOf_14 : decode b_Net_frontOf 14 = .ok (.iconst 0, 1) := by decide +kernel
theorem d_Net_frontOf_15 : decode b_Net_frontOf 15 = .ok (.invokevirtual 53, 3) := by decide +kernel
theorem d_Net_frontOf_18 : decode b_Net_frontOf 18 = .ok (.goto 9, 3) := by decide +kernel
theorem d_Net_frontOf_21 : decode b_Net_frontOf 21 = .ok (.aload_n 0, 1) := by decide +kernel
theorem d_Net_frontOf_22 : decode b_Net_frontOf 22 = .ok (.getfield 18, 3) := by decide +kernel
theorem d_Net_frontOf_25 : decode b_Net_frontOf 25 = .ok (.iload_n 2, 1) := by decide +kernel
theorem d_Net_frontOf_26 : decode b_Net_frontOf 26 = .ok (.iaload, 1) := by decide +kernel
theorem d_Net_frontOf_27 : decode b_Net_frontOf 27 = .ok (.ireturn, 1) := by decide +kernel
def q_Net_frontOf (a1 : Int32) (a2 : Int32) (a3 : Int32) (M : Mem) (post : Int32 → Mem → Prop) : Prop := (¬ a3 = a1 → (¬ a3 = 0 → vp_in a2 10 ∧ (post (M.1 4 a2.toNatClampNeg) M)) ∧ (a3 = 0 → q_Net_pointOf a1 a2 (0 : Int32) M (fun r2 M1 => post r2 M1))) ∧ (a3 = a1 → post a2 M)
set_option maxHeartbeats 4000000 in
theorem s_Net_frontOf {l : Launch} {κ : Kp} {a1 : Int32} {a2 : Int32} {a3 : Int32} {M : Mem} {post : Int32 → Mem → Prop} (hq : q_Net_frontOf a1 a2 a3 M post) : Ct l κ y_Net_frontOf b_Net_frontOf 4 (some .int) 1 [.ref (κ.1 + 1), .int a1, .int a2, .int a3] M (pI post) := by
  refine Ct_of (by decide) (Nat.le_of_ble_eq_true rfl) (fun γ hγ C R => ?_)
  subst hγ
  unfold q_Net_frontOf at hq
  show G γ κ 4 (0, 0) (Gq γ κ (pI post)) 0 [(0, .ref (κ.1 + 1)), (1, .int a1), (2, .int a2), (3, .int a3)] [] M
  refine G_iload_n C 3 d_Net_frontOf_0 rfl rfl ?_
  refine G_iload_n C 1 d_Net_frontOf_1 rfl rfl ?_
  refine G_icmp_ne C (tgt := 7) d_Net_frontOf_2 (by decide) (fun c => ?_) (fun c => ?_)
  · replace hq := hq.1 c
    refine G_iload_n C 3 d_Net_frontOf_7 rfl rfl ?_
    refine G_if_ne C (tgt := 21) d_Net_frontOf_8 (by decide) (fun c => ?_) (fun c => ?_)
    · replace hq := hq.1 c
      refine G_aload_n C 0 d_Net_frontOf_21 rfl rfl ?_
      refine Gg_Net_firsts C wd_42 d_Net_frontOf_22 ?_
      refine G_iload_n C 2 d_Net_frontOf_25 rfl rfl ?_
      refine G_iaload C (k := 4) (by decide) (fun _ _ => rfl) hq.1 d_Net_frontOf_26 ?_
      replace hq := hq.2
      exact G_iret C R d_Net_frontOf_27 ⟨_, rfl, hq⟩
    · replace hq := hq.2 c
      refine G_aload_n C 0 d_Net_frontOf_11 rfl rfl ?_
      refine G_iload_n C 1 d_Net_frontOf_12 rfl rfl ?_
      refine G_iload_n C 2 d_Net_frontOf_13 rfl rfl ?_
      refine G_iconst C (v := 0) d_Net_frontOf_14 (by decide) ?_
      refine G_callV C (s_Net_pointOf hq) v_Net_pointOf i_Net_pointOf z_Net_pointOf wd_307 (by decide) rfl (k := 1) (ci := 3) (by decide) rfl rfl rfl (rest := []) (by rfl) (Nat.le_of_ble_eq_true rfl) d_Net_frontOf_15 (ki_ (fun r2 M1 hq => ?_))
      refine G_goto C (tgt := 27) d_Net_frontOf_18 (by decide) ?_
      exact G_iret C R d_Net_frontOf_27 ⟨_, rfl, hq⟩
  · replace hq := hq.2 c
    refine G_iload_n C 2 d_Net_frontOf_5 rfl rfl ?_
    exact G_iret C R d_Net_frontOf_6 ⟨_, rfl, hq⟩
theorem d_Net_backOf_0 : decode b_Net_backOf 0 = .ok (.iload_n 3, 1) := by decide +kernel
theorem d_Net_backOf_1 : decode b_Net_backOf 1 = .ok (.iload_n 1, 1) := by decide +kernel
theorem d_Net_backOf_2 : decode b_Net_backOf 2 = .ok (.if_icmp .ne 5, 3) := by decide +kernel
theorem d_Net_backOf_5 : decode b_Net_backOf 5 = .ok (.iload_n 2, 1) := by decide +kernel
theorem d_Net_backOf_6 : decode b_Net_backOf 6 = .ok (.ireturn, 1) := by decide +kernel
theorem d_Net_backOf_7 : decode b_Net_backOf 7 = .ok (.iload_n 3, 1) := by decide +kernel
theorem d_Net_backOf_8 : decode b_Net_backOf 8 = .ok (.ifCond .ne 13, 3) := by decide +kernel
theorem d_Net_backOf_11 : decode b_Net_backOf 11 = .ok (.aload_n 0, 1) := by decide +kernel
theorem d_Net_backOf_12 : decode b_Net_backOf 12 = .ok (.iload_n 1, 1) := by decide +kernel
theorem d_Net_backOf_13 : decode b_Net_backOf 13 = .ok (.iload_n 2, 1) := by decide +kernel
theorem d_Net_backOf_14 : decode b_Net_backOf 14 = .ok (.iload_n 1, 1) := by decide +kernel
theorem d_Net_backOf_15 : decode b_Net_backOf 15 = .ok (.invokevirtual 53, 3) := by decide +kernel
theorem d_Net_backOf_18 : decode b_Net_backOf 18 = .ok (.goto 9, 3) := by decide +kernel
theorem d_Net_backOf_21 : decode b_Net_backOf 21 = .ok (.aload_n 0, 1) := by decide +kernel
theorem d_Net_backOf_22 : decode b_Net_backOf 22 = .ok (.getfield 21, 3) := by decide +kernel
theorem d_Net_backOf_25 : decode b_Net_backOf 25 = .ok (.iload_n 2, 1) := by decide +kernel
theorem d_Net_backOf_26 : decode b_Net_backOf 26 = .ok (.iaload, 1) := by decide +kernel
theorem d_Net_backOf_27 : decode b_Net_backOf 27 = .ok (.ireturn, 1) := by decide +kernel
def q_Net_backOf (a1 : Int32) (a2 : Int32) (a3 : Int32) (M : Mem) (post : Int32 → Mem → Prop) : Prop := (¬ a3 = a1 → (¬ a3 = 0 → vp_in a2 10 ∧ (post (M.1 5 a2.toNatClampNeg) M)) ∧ (a3 = 0 → q_Net_pointOf a1 a2 a1 M (fun r2 M1 => post r2 M1))) ∧ (a3 = a1 → post a2 M)
set_option maxHeartbeats 4000000 in
theorem s_Net_backOf {l : Launch} {κ : Kp} {a1 : Int32} {a2 : Int32} {a3 : Int32} {M : Mem} {post : Int32 → Mem → Prop} (hq : q_Net_backOf a1 a2 a3 M post) : Ct l κ y_Net_backOf b_Net_backOf 4 (some .int) 1 [.ref (κ.1 + 1), .int a1, .int a2, .int a3] M (pI post) := by
  refine Ct_of (by decide) (Nat.le_of_ble_eq_true rfl) (fun γ hγ C R => ?_)
  subst hγ
  unfold q_Net_backOf at hq
  show G γ κ 4 (0, 0) (Gq γ κ (pI post)) 0 [(0, .ref (κ.1 + 1)), (1, .int a1), (2, .int a2), (3, .int a3)] [] M
  refine G_iload_n C 3 d_Net_backOf_0 rfl rfl ?_
  refine G_iload_n C 1 d_Net_backOf_1 rfl rfl ?_
  refine G_icmp_ne C (tgt := 7) d_Net_backOf_2 (by decide) (fun c => ?_) (fun c => ?_)
  · replace hq := hq.1 c
    refine G_iload_n C 3 d_Net_backOf_7 rfl rfl ?_
    refine G_if_ne C (tgt := 21) d_Net_backOf_8 (by decide) (fun c => ?_) (fun c => ?_)
    · replace hq := hq.1 c
      refine G_aload_n C 0 d_Net_backOf_21 rfl rfl ?_
      refine Gg_Net_seconds C wd_43 d_Net_backOf_22 ?_
      refine G_iload_n C 2 d_Net_backOf_25 rfl rfl ?_
      refine G_iaload C (k := 5) (by decide) (fun _ _ => rfl) hq.1 d_Net_backOf_26 ?_
      replace hq := hq.2
      exact G_iret C R d_Net_backOf_27 ⟨_, rfl, hq⟩
    · replace hq := hq.2 c
      refine G_aload_n C 0 d_Net_backOf_11 rfl rfl ?_
      refine G_iload_n C 1 d_Net_backOf_12 rfl rfl ?_
      refine G_iload_n C 2 d_Net_backOf_13 rfl rfl ?_
      refine G_iload_n C 1 d_Net_backOf_14 rfl rfl ?_
      refine G_callV C (s_Net_pointOf hq) v_Net_pointOf i_Net_pointOf z_Net_pointOf wd_307 (by decide) rfl (k := 1) (ci := 3) (by decide) rfl rfl rfl (rest := []) (by rfl) (Nat.le_of_ble_eq_true rfl) d_Net_backOf_15 (ki_ (fun r2 M1 hq => ?_))
      refine G_goto C (tgt := 27) d_Net_backOf_18 (by decide) ?_
      exact G_iret C R d_Net_backOf_27 ⟨_, rfl, hq⟩
  · replace hq := hq.2 c
    refine G_iload_n C 2 d_Net_backOf_5 rfl rfl ?_
    exact G_iret C R d_Net_backOf_6 ⟨_, rfl, hq⟩
theorem d_Frm_fitsIn_0 : decode b_Frm_fitsIn 0 = .ok (.iconst 0, 1) := by decide +kernel
theorem d_Frm_fitsIn_1 : decode b_Frm_fitsIn 1 = .ok (.istore_n 2, 1) := by decide +kernel
theorem d_Frm_fitsIn_2 : decode b_Frm_fitsIn 2 = .ok (.iload_n 2, 1) := by decide +kernel
theorem d_Frm_fitsIn_3 : decode b_Frm_fitsIn 3 = .ok (.bipush 12, 2) := by decide +kernel
theorem d_Frm_fitsIn_5 : decode b_Frm_fitsIn 5 = .ok (.if_icmp .ge 25, 3) := by decide +kernel
theorem d_Frm_fitsIn_8 : decode b_Frm_fitsIn 8 = .ok (.aload_n 0, 1) := by decide +kernel
theorem d_Frm_fitsIn_9 : decode b_Frm_fitsIn 9 = .ok (.getfield 9, 3) := by decide +kernel
theorem d_Frm_fitsIn_12 : decode b_Frm_fitsIn 12 = .ok (.iload_n 2, 1) := by decide +kernel
theorem d_Frm_fitsIn_13 : decode b_Frm_fitsIn 13 = .ok (.iaload, 1) := by decide +kernel
theorem d_Frm_fitsIn_14 : decode b_Frm_fitsIn 14 = .ok (.i2l, 1) := by decide +kernel
theorem d_Frm_fitsIn_15 : decode b_Frm_fitsIn 15 = .ok (.iload_n 1, 1) := by decide +kernel
theorem d_Frm_fitsIn_16 : decode b_Frm_fitsIn 16 = .ok (.invokestatic 25, 3) := by decide +kernel
theorem d_Frm_fitsIn_19 : decode b_Frm_fitsIn 19 = .ok (.ifCond .ne 5, 3) := by decide +kernel
theorem d_Frm_fitsIn_22 : decode b_Frm_fitsIn 22 = .ok (.iconst 0, 1) := by decide +kernel
theorem d_Frm_fitsIn_23 : decode b_Frm_fitsIn 23 = .ok (.ireturn, 1) := by decide +kernel
theorem d_Frm_fitsIn_24 : decode b_Frm_fitsIn 24 = .ok (.iinc 2 1, 3) := by decide +kernel
theorem d_Frm_fitsIn_27 : decode b_Frm_fitsIn 27 = .ok (.goto (-25), 3) := by decide +kernel
theorem d_Frm_fitsIn_30 : decode b_Frm_fitsIn 30 = .ok (.iconst 1, 1) := by decide +kernel
theorem d_Frm_fitsIn_31 : decode b_Frm_fitsIn 31 = .ok (.ireturn, 1) := by decide +kernel
def q_Frm_fitsIn_L2 (g0 : Nat) (kx22 : Mem → Prop) (kx30 : Mem → Prop) (post : Int32 → Mem → Prop) : Nat → Int32 → Int32 → Mem → Prop
  | 0, _, _, _ => False
  | n + 1, x1, x2, M => ((12 : Int32) ≤ x2 → kx30 M) ∧ (¬ (12 : Int32) ≤ x2 → vp_in x2 12 ∧ (q_Nf_isWithin ((M.1 (33 + 2 * g0) x2.toNatClampNeg).toInt64) x1 M (fun r2 M1 => (¬ r2 = 0 → q_Frm_fitsIn_L2 g0 kx22 kx30 post n x1 (x2 + 1) M1) ∧ (r2 = 0 → kx22 M1))))
set_option maxHeartbeats 4000000 in
theorem s_Frm_fitsIn_L2 {γ : Gm} {κ : Kp} {post : Int32 → Mem → Prop} {g0 : Nat} {kx22 : Mem → Prop} {kx30 : Mem → Prop} (C : Cx γ κ "NetForms$Form" b_Frm_fitsIn 3 1 (0, 0)) (R : Rt γ (some .boolean)) (h_g0 : g0 < 12) (hx22 : ∀ M', kx22 M' → G γ κ 3 (0, 0) (Gq γ κ (pI post)) 22 [] [] M') (hx30 : ∀ M', kx30 M' → G γ κ 3 (0, 0) (Gq γ κ (pI post)) 30 [] [] M') : ∀ (n : Nat) (x1 : Int32) (x2 : Int32) (M : Mem), q_Frm_fitsIn_L2 g0 kx22 kx30 post n x1 x2 M → G γ κ 3 (0, 0) (Gq γ κ (pI post)) 2 [(0, .ref (κ.1 + (32 + 2 * g0))), (1, .int x1), (2, .int x2)] [] M := by
  intro n
  induction n with
  | zero => intro x1 x2 M hq; exact hq.elim
  | succ n ih =>
    intro x1 x2 M hq
    unfold q_Frm_fitsIn_L2 at hq
    refine G_iload_n C 2 d_Frm_fitsIn_2 rfl rfl ?_
    refine G_bipush C (v := 12) d_Frm_fitsIn_3 (by decide) ?_
    refine G_icmp_ge C (tgt := 30) d_Frm_fitsIn_5 (by decide) (fun c => ?_) (fun c => ?_)
    · replace hq := hq.1 c
      exact G_sub [] (by rfl) (hx30 _ hq)
    · replace hq := hq.2 c
      refine G_aload_n C 0 d_Frm_fitsIn_8 rfl rfl ?_
      refine Gg_Frm_numbers C h_g0 wd_151 d_Frm_fitsIn_9 ?_
      refine G_iload_n C 2 d_Frm_fitsIn_12 rfl rfl ?_
      refine G_iaload C (by have := h_g0; omega) (sh_formA κ h_g0) hq.1 d_Frm_fitsIn_13 ?_
      replace hq := hq.2
      refine G_i2l C d_Frm_fitsIn_14 ?_
      refine G_iload_n C 1 d_Frm_fitsIn_15 rfl rfl ?_
      refine G_callSN C (s_Nf_isWithin hq) v_Nf_isWithin z_Nf_isWithin ne_324 (by decide) rfl (rest := []) (by rfl) (Nat.le_of_ble_eq_true rfl) d_Frm_fitsIn_16 (ki_ (fun r2 M1 hq => ?_))
      refine G_if_ne C (tgt := 24) d_Frm_fitsIn_19 (by decide) (fun c => ?_) (fun c => ?_)
      · replace hq := hq.1 c
        refine G_iinc C (v := _ + 1) (lv' := [(2, _), (0, _), (1, _)]) 2 d_Frm_fitsIn_24 rfl rfl (by decide) rfl ?_
        refine G_goto C (tgt := 2) d_Frm_fitsIn_27 (by decide) ?_
        exact G_sub [1, 2, 0] (by rfl) (ih _ _ _ hq)
      · replace hq := hq.2 c
        exact G_sub [] (by rfl) (hx22 _ hq)
def q_Frm_fitsIn (f0 : Nat) (a1 : Int32) (M : Mem) (post : Int32 → Mem → Prop) : Prop := ∃ n3, q_Frm_fitsIn_L2 f0 (fun M4 => post (0 : Int32) M4) (fun M5 => post (1 : Int32) M5) post n3 a1 (0 : Int32) M
set_option maxHeartbeats 4000000 in
theorem s_Frm_fitsIn {l : Launch} {κ : Kp} {f0 : Nat} {a1 : Int32} {M : Mem} {post : Int32 → Mem → Prop} (h_f0 : f0 < 12) (hq : q_Frm_fitsIn f0 a1 M post) : Ct l κ y_Frm_fitsIn b_Frm_fitsIn 3 (some .boolean) 1 [.ref (κ.1 + (32 + 2 * f0)), .int a1] M (pI post) := by
  refine Ct_of (by decide) (Nat.le_of_ble_eq_true rfl) (fun γ hγ C R => ?_)
  subst hγ
  unfold q_Frm_fitsIn at hq
  show G γ κ 3 (0, 0) (Gq γ κ (pI post)) 0 [(0, .ref (κ.1 + (32 + 2 * f0))), (1, .int a1)] [] M
  refine G_iconst C (v := 0) d_Frm_fitsIn_0 (by decide) ?_
  refine G_istore_n C (lv' := [(2, _), (0, _), (1, _)]) d_Frm_fitsIn_1 rfl (by decide) rfl ?_
  obtain ⟨n3, hq⟩ := hq
  refine G_sub [1, 2, 0] (by rfl) (s_Frm_fitsIn_L2 C R h_f0 ?_ ?_ n3 _ _ _ hq)
  · intro M4 hq
    refine G_iconst C (v := 0) d_Frm_fitsIn_22 (by decide) ?_
    exact G_zret C R rfl d_Frm_fitsIn_23 ⟨_, rfl, hq⟩
  · intro M5 hq
    refine G_iconst C (v := 1) d_Frm_fitsIn_30 (by decide) ?_
    exact G_zret C R rfl d_Frm_fitsIn_31 ⟨_, rfl, hq⟩
theorem d_Bal_begin_0 : decode b_Bal_begin 0 = .ok (.aload_n 0, 1) := by decide +kernel
theorem d_Bal_begin_1 : decode b_Bal_begin 1 = .ok (.iload_n 1, 1) := by decide +kernel
theorem d_Bal_begin_2 : decode b_Bal_begin 2 = .ok (.bipush 10, 2) := by decide +kernel
theorem d_Bal_begin_4 : decode b_Bal_begin 4 = .ok (.invokestatic 18, 3) := by decide +kernel
theorem d_Bal_begin_7 : decode b_Bal_begin 7 = .ok (.putfield 24, 3) := by decide +kernel
theorem d_Bal_begin_10 : decode b_Bal_begin 10 = .ok (.iconst 0, 1) := by decide +kernel
theorem d_Bal_begin_11 : decode b_Bal_begin 11 = .ok (.istore_n 2, 1) := by decide +kernel
theorem d_Bal_begin_12 : decode b_Bal_begin 12 = .ok (.iload_n 2, 1) := by decide +kernel
theorem d_Bal_begin_13 : decode b_Bal_begin 13 = .ok (.aload_n 0, 1) := by decide +kernel
theorem d_Bal_begin_14 : decode b_Bal_begin 14 = .ok (.getfield 24, 3) := by decide +kernel
theorem d_Bal_begin_17 : decode b_Bal_begin 17 = .ok (.if_icmp .ge 26, 3) := by decide +kernel
theorem d_Bal_begin_20 : decode b_Bal_begin 20 = .ok (.aload_n 0, 1) := by decide +kernel
theorem d_Bal_begin_21 : decode b_Bal_begin 21 = .ok (.getfield 11, 3) := by decide +kernel
theorem d_Bal_begin_24 : decode b_Bal_begin 24 = .ok (.iload_n 2, 1) := by decide +kernel
theorem d_Bal_begin_25 : decode b_Bal_begin 25 = .ok (.aaload, 1) := by decide +kernel
theorem d_Bal_begin_26 : decode b_Bal_begin 26 = .ok (.lconst 0, 1) := by decide +kernel
theorem d_Bal_begin_27 : decode b_Bal_begin 27 = .ok (.invokestatic 28, 3) := by decide +kernel
theorem d_Bal_begin_30 : decode b_Bal_begin 30 = .ok (.aload_n 0, 1) := by decide +kernel
theorem d_Bal_begin_31 : decode b_Bal_begin 31 = .ok (.getfield 14, 3) := by decide +kernel
theorem d_Bal_begin_34 : decode b_Bal_begin 34 = .ok (.iload_n 2, 1) := by decide +kernel
theorem d_Bal_begin_35 : decode b_Bal_begin 35 = .ok (.lconst 0, 1) := by decide +kernel
theorem d_Bal_begin_36 : decode b_Bal_begin 36 = .ok (.lastore, 1) := by decide +kernel
theorem d_Bal_begin_37 : decode b_Bal_begin 37 = .ok (.iinc 2 1, 3) := by decide +kernel
theorem d_Bal_begin_40 : decode b_Bal_begin 40 = .ok (.goto (-28), 3) := by decide +kernel
theorem d_Bal_begin_43 : decode b_Bal_begin 43 = .ok (.return_, 1) := by decide +kernel
def q_Bal_begin_L12 (kx43 : Mem → Prop) (post : Mem → Prop) : Nat → Int32 → Mem → Prop
  | 0, _, _ => False
  | n + 1, x2, M => ((M.1 15 0) ≤ x2 → kx43 M) ∧ (¬ (M.1 15 0) ≤ x2 → vp_in x2 10 ∧ (q_Arr_fill_JJV (17 + x2.toNatClampNeg) 10 (0 : Int64) M (fun M3 => vp_in x2 10 ∧ (∀ M4, M4 = wJ M3 27 x2.toNatClampNeg (0 : Int64) → q_Bal_begin_L12 kx43 post n (x2 + 1) M4))))
set_option maxHeartbeats 4000000 in
theorem s_Bal_begin_L12 {γ : Gm} {κ : Kp} {post : Mem → Prop} {kx43 : Mem → Prop} (C : Cx γ κ "NetForms$Balance" b_Bal_begin 3 1 (0, 0)) (R : Rt γ (none)) (hx43 : ∀ M', kx43 M' → G γ κ 3 (0, 0) (Gq γ κ (pV post)) 43 [] [] M') : ∀ (n : Nat) (x2 : Int32) (M : Mem), q_Bal_begin_L12 kx43 post n x2 M → G γ κ 3 (0, 0) (Gq γ κ (pV post)) 12 [(0, .ref (κ.1 + 15)), (2, .int x2)] [] M := by
  intro n
  induction n with
  | zero => intro x2 M hq; exact hq.elim
  | succ n ih =>
    intro x2 M hq
    unfold q_Bal_begin_L12 at hq
    refine G_iload_n C 1 d_Bal_begin_12 rfl rfl ?_
    refine G_aload_n C 0 d_Bal_begin_13 rfl rfl ?_
    refine Gg_Bal_size C wd_113 d_Bal_begin_14 ?_
    refine G_icmp_ge C (tgt := 43) d_Bal_begin_17 (by decide) (fun c => ?_) (fun c => ?_)
    · replace hq := hq.1 c
      exact G_sub [] (by rfl) (hx43 _ hq)
    · replace hq := hq.2 c
      refine G_aload_n C 0 d_Bal_begin_20 rfl rfl ?_
      refine Gg_Bal_table C wd_114 d_Bal_begin_21 ?_
      refine G_iload_n C 1 d_Bal_begin_24 rfl rfl ?_
      have hr2 := hq.1
      replace hq := hq.2
      refine G_aaT C hr2 d_Bal_begin_25 ?_
      refine G_lconst C (v := 0) d_Bal_begin_26 (by decide) ?_
      refine G_callS C (s_Arr_fill_JJV (by have := vp_lt hr2; omega) (sh_tabA κ (vp_lt hr2)) hq) v_Arr_fill_JJV z_Arr_fill_JJV wd_354 (by decide) rfl (rest := []) (by rfl) (Nat.le_of_ble_eq_true rfl) d_Bal_begin_27 (kv_ (fun M3 hq => ?_))
      refine G_aload_n C 0 d_Bal_begin_30 rfl rfl ?_
      refine Gg_Bal_dues C wd_115 d_Bal_begin_31 ?_
      refine G_iload_n C 1 d_Bal_begin_34 rfl rfl ?_
      refine G_lconst C (v := 0) d_Bal_begin_35 (by decide) ?_
      refine G_lastore C (k := 27) (by decide) (fun _ _ => rfl) hq.1 d_Bal_begin_36 ?_
      replace hq := hq.2 _ rfl
      refine G_iinc C (v := _ + 1) (lv' := [(2, _), (0, _)]) 1 d_Bal_begin_37 rfl rfl (by decide) rfl ?_
      refine G_goto C (tgt := 12) d_Bal_begin_40 (by decide) ?_
      exact G_sub [1, 0] (by rfl) (ih _ _ hq)
def q_Bal_begin (a1 : Int32) (M : Mem) (post : Mem → Prop) : Prop := ∀ M1, M1 = wI M 15 0 (if (10 : Int32) < a1 then (10 : Int32) else a1) → ∃ n5, q_Bal_begin_L12 (fun M6 => post M6) post n5 (0 : Int32) M1
set_option maxHeartbeats 4000000 in
theorem s_Bal_begin {l : Launch} {κ : Kp} {a1 : Int32} {M : Mem} {post : Mem → Prop} (hq : q_Bal_begin a1 M post) : Ct l κ y_Bal_begin b_Bal_begin 3 (none) 1 [.ref (κ.1 + 15), .int a1] M (pV post) := by
  refine Ct_of (by decide) (Nat.le_of_ble_eq_true rfl) (fun γ hγ C R => ?_)
  subst hγ
  unfold q_Bal_begin at hq
  show G γ κ 3 (0, 0) (Gq γ κ (pV post)) 0 [(0, .ref (κ.1 + 15)), (1, .int a1)] [] M
  refine G_aload_n C 0 d_Bal_begin_0 rfl rfl ?_
  refine G_iload_n C 1 d_Bal_begin_1 rfl rfl ?_
  refine G_bipush C (v := 10) d_Bal_begin_2 (by decide) ?_
  refine G_min C wd_353 (by decide) (Nat.le_of_ble_eq_true rfl) d_Bal_begin_4 ?_
  refine Gp_Bal_size C wd_113 d_Bal_begin_7 ?_
  replace hq := hq _ rfl
  refine G_iconst C (v := 0) d_Bal_begin_10 (by decide) ?_
  refine G_istore_n C (lv' := [(2, _), (0, _), (1, _)]) d_Bal_begin_11 rfl (by decide) rfl ?_
  obtain ⟨n5, hq⟩ := hq
  refine G_sub [1, 0] (by rfl) (s_Bal_begin_L12 C R ?_ n5 _ _ hq)
  · intro M6 hq
    exact G_vret C R d_Bal_begin_43 ⟨rfl, hq⟩
theorem d_Nf_addPlateProducts_0 : decode b_Nf_addPlateProducts 0 = .ok (.iconst 0, 1) := by decide +kernel
theorem d_Nf_addPlateProducts_1 : decode b_Nf_addPlateProducts 1 = .ok (.istore_n 1, 1) := by decide +kernel
theorem d_Nf_addPlateProducts_2 : decode b_Nf_addPlateProducts 2 = .ok (.iload_n 1, 1) := by decide +kernel
theorem d_Nf_addPlateProducts_3 : decode b_Nf_addPlateProducts 3 = .ok (.aload_n 0, 1) := by decide +kernel
theorem d_Nf_addPlateProducts_4 : decode b_Nf_addPlateProducts 4 = .ok (.getfield 10, 3) := by decide +kernel
theorem d_Nf_addPlateProducts_7 : decode b_Nf_addPlateProducts 7 = .ok (.getfield 81, 3) := by decide +kernel
theorem d_Nf_addPlateProducts_10 : decode b_Nf_addPlateProducts 10 = .ok (.if_icmp .ge 78, 3) := by decide +kernel
theorem d_Nf_addPlateProducts_13 : decode b_Nf_addPlateProducts 13 = .ok (.iconst 0, 1) := by decide +kernel
theorem d_Nf_addPlateProducts_14 : decode b_Nf_addPlateProducts 14 = .ok (.istore_n 2, 1) := by decide +kernel
theorem d_Nf_addPlateProducts_15 : decode b_Nf_addPlateProducts 15 = .ok (.iload_n 2, 1) := by decide +kernel
theorem d_Nf_addPlateProducts_16 : decode b_Nf_addPlateProducts 16 = .ok (.aload_n 0, 1) := by decide +kernel
theorem d_Nf_addPlateProducts_17 : decode b_Nf_addPlateProducts 17 = .ok (.getfield 10, 3) := by decide +kernel
theorem d_Nf_addPlateProducts_20 : decode b_Nf_addPlateProducts 20 = .ok (.getfield 81, 3) := by decide +kernel
theorem d_Nf_addPlateProducts_23 : decode b_Nf_addPlateProducts 23 = .ok (.if_icmp .ge 59, 3) := by decide +kernel
theorem d_Nf_addPlateProducts_26 : decode b_Nf_addPlateProducts 26 = .ok (.iconst 0, 1) := by decide +kernel
theorem d_Nf_addPlateProducts_27 : decode b_Nf_addPlateProducts 27 = .ok (.istore_n 3, 1) := by decide +kernel
theorem d_Nf_addPlateProducts_28 : decode b_Nf_addPlateProducts 28 = .ok (.iload_n 3, 1) := by decide +kernel
theorem d_Nf_addPlateProducts_29 : decode b_Nf_addPlateProducts 29 = .ok (.aload_n 0, 1) := by decide +kernel
theorem d_Nf_addPlateProducts_30 : decode b_Nf_addPlateProducts 30 = .ok (.getfield 10, 3) := by decide +kernel
theorem d_Nf_addPlateProducts_33 : decode b_Nf_addPlateProducts 33 = .ok (.getfield 71, 3) := by decide +kernel
theorem d_Nf_addPlateProducts_36 : decode b_Nf_addPlateProducts 36 = .ok (.if_icmp .ge 40, 3) := by decide +kernel
theorem d_Nf_addPlateProducts_39 : decode b_Nf_addPlateProducts 39 = .ok (.aload_n 0, 1) := by decide +kernel
theorem d_Nf_addPlateProducts_40 : decode b_Nf_addPlateProducts 40 = .ok (.getfield 39, 3) := by decide +kernel
theorem d_Nf_addPlateProducts_43 : decode b_Nf_addPlateProducts 43 = .ok (.iload_n 1, 1) := by decide +kernel
theorem d_Nf_addPlateProducts_44 : decode b_Nf_addPlateProducts 44 = .ok (.iload_n 2, 1) := by decide +kernel
theorem d_Nf_addPlateProducts_45 : decode b_Nf_addPlateProducts 45 = .ok (.aload_n 0, 1) := by decide +kernel
theorem d_Nf_addPlateProducts_46 : decode b_Nf_addPlateProducts 46 = .ok (.getfield 10, 3) := by decide +kernel
theorem d_Nf_addPlateProducts_49 : decode b_Nf_addPlateProducts 49 = .ok (.iconst 2, 1) := by decide +kernel
theorem d_Nf_addPlateProducts_50 : decode b_Nf_addPlateProducts 50 = .ok (.iload_n 1, 1) := by decide +kernel
theorem d_Nf_addPlateProducts_51 : decode b_Nf_addPlateProducts 51 = .ok (.iload_n 3, 1) := by decide +kernel
theorem d_Nf_addPlateProducts_52 : decode b_Nf_addPlateProducts 52 = .ok (.invokevirtual 232, 3) := by decide +kernel
theorem d_Nf_addPlateProducts_55 : decode b_Nf_addPlateProducts 55 = .ok (.aload_n 0, 1) := by decide +kernel
theorem d_Nf_addPlateProducts_56 : decode b_Nf_addPlateProducts 56 = .ok (.getfield 10, 3) := by decide +kernel
theorem d_Nf_addPlateProducts_59 : decode b_Nf_addPlateProducts 59 = .ok (.iconst 2, 1) := by decide +kernel
theorem d_Nf_addPlateProducts_60 : decode b_Nf_addPlateProducts 60 = .ok (.iload_n 2, 1) := by decide +kernel
theorem d_Nf_addPlateProducts_61 : decode b_Nf_addPlateProducts 61 = .ok (.iload_n 3, 1) := by decide +kernel
theorem d_Nf_addPlateProducts_62 : decode b_Nf_addPlateProducts 62 = .ok (.invokevirtual 232, 3) := by decide +kernel
theorem d_Nf_addPlateProducts_65 : decode b_Nf_addPlateProducts 65 = .ok (.imul, 1) := by decide +kernel
theorem d_Nf_addPlateProducts_66 : decode b_Nf_addPlateProducts 66 = .ok (.i2l, 1) := by decide +kernel
theorem d_Nf_addPlateProducts_67 : decode b_Nf_addPlateProducts 67 = .ok (.invokevirtual 248, 3) := by decide +kernel
theorem d_Nf_addPlateProducts_70 : decode b_Nf_addPlateProducts 70 = .ok (.iinc 3 1, 3) := by decide +kernel
theorem d_Nf_addPlateProducts_73 : decode b_Nf_addPlateProducts 73 = .ok (.goto (-45), 3) := by decide +kernel
theorem d_Nf_addPlateProducts_76 : decode b_Nf_addPlateProducts 76 = .ok (.iinc 2 1, 3) := by decide +kernel
theorem d_Nf_addPlateProducts_79 : decode b_Nf_addPlateProducts 79 = .ok (.goto (-64), 3) := by decide +kernel
theorem d_Nf_addPlateProducts_82 : decode b_Nf_addPlateProducts 82 = .ok (.iinc 1 1, 3) := by decide +kernel
theorem d_Nf_addPlateProducts_85 : decode b_Nf_addPlateProducts 85 = .ok (.goto (-83), 3) := by decide +kernel
theorem d_Nf_addPlateProducts_88 : decode b_Nf_addPlateProducts 88 = .ok (.return_, 1) := by decide +kernel
def q_Nf_addPlateProducts_L28 (kx76 : Int32 → Int32 → Mem → Prop) (post : Mem → Prop) : Nat → Int32 → Int32 → Int32 → Mem → Prop
  | 0, _, _, _, _ => False
  | n + 1, x1, x2, x3, M => ((M.1 1 1) ≤ x3 → kx76 x1 x2 M) ∧ (¬ (M.1 1 1) ≤ x3 → q_Net_signOf (2 : Int32) x1 x3 M (fun r2 M1 => q_Net_signOf (2 : Int32) x2 x3 M1 (fun r4 M3 => q_Bal_add x1 x2 ((r2 * r4).toInt64) M3 (fun M5 => q_Nf_addPlateProducts_L28 kx76 post n x1 x2 (x3 + 1) M5))))
set_option maxHeartbeats 4000000 in
theorem s_Nf_addPlateProducts_L28 {γ : Gm} {κ : Kp} {post : Mem → Prop} {kx76 : Int32 → Int32 → Mem → Prop} (C : Cx γ κ "NetForms" b_Nf_addPlateProducts 4 1 (0, 0)) (R : Rt γ (none)) (hx76 : ∀ y1 y2 M', kx76 y1 y2 M' → G γ κ 4 (0, 0) (Gq γ κ (pV post)) 76 [(0, .ref (κ.1 + 0)), (1, .int y1), (2, .int y2)] [] M') : ∀ (n : Nat) (x1 : Int32) (x2 : Int32) (x3 : Int32) (M : Mem), q_Nf_addPlateProducts_L28 kx76 post n x1 x2 x3 M → G γ κ 4 (0, 0) (Gq γ κ (pV post)) 28 [(0, .ref (κ.1 + 0)), (1, .int x1), (2, .int x2), (3, .int x3)] [] M := by
  intro n
  induction n with
  | zero => intro x1 x2 x3 M hq; exact hq.elim
  | succ n ih =>
    intro x1 x2 x3 M hq
    unfold q_Nf_addPlateProducts_L28 at hq
    refine G_iload_n C 3 d_Nf_addPlateProducts_28 rfl rfl ?_
    refine G_aload_n C 0 d_Nf_addPlateProducts_29 rfl rfl ?_
    refine Gg_Nf_shape C wd_163 d_Nf_addPlateProducts_30 ?_
    refine Gg_Net_edges C wd_31 d_Nf_addPlateProducts_33 ?_
    refine G_icmp_ge C (tgt := 76) d_Nf_addPlateProducts_36 (by decide) (fun c => ?_) (fun c => ?_)
    · replace hq := hq.1 c
      exact G_sub [0, 1, 2] (by rfl) (hx76 _ _ _ hq)
    · replace hq := hq.2 c
      refine G_aload_n C 0 d_Nf_addPlateProducts_39 rfl rfl ?_
      refine Gg_Nf_balance C wd_167 d_Nf_addPlateProducts_40 ?_
      refine G_iload_n C 1 d_Nf_addPlateProducts_43 rfl rfl ?_
      refine G_iload_n C 2 d_Nf_addPlateProducts_44 rfl rfl ?_
      refine G_aload_n C 0 d_Nf_addPlateProducts_45 rfl rfl ?_
      refine Gg_Nf_shape C wd_163 d_Nf_addPlateProducts_46 ?_
      refine G_iconst C (v := 2) d_Nf_addPlateProducts_49 (by decide) ?_
      refine G_iload_n C 1 d_Nf_addPlateProducts_50 rfl rfl ?_
      refine G_iload_n C 3 d_Nf_addPlateProducts_51 rfl rfl ?_
      refine G_callV C (s_Net_signOf hq) v_Net_signOf i_Net_signOf z_Net_signOf wd_283 (by decide) rfl (k := 1) (ci := 3) (by decide) rfl rfl rfl (rest := [_, _, _]) (by rfl) (Nat.le_of_ble_eq_true rfl) d_Nf_addPlateProducts_52 (ki_ (fun r2 M1 hq => ?_))
      refine G_aload_n C 0 d_Nf_addPlateProducts_55 rfl rfl ?_
      refine Gg_Nf_shape C wd_163 d_Nf_addPlateProducts_56 ?_
      refine G_iconst C (v := 2) d_Nf_addPlateProducts_59 (by decide) ?_
      refine G_iload_n C 2 d_Nf_addPlateProducts_60 rfl rfl ?_
      refine G_iload_n C 3 d_Nf_addPlateProducts_61 rfl rfl ?_
      refine G_callV C (s_Net_signOf hq) v_Net_signOf i_Net_signOf z_Net_signOf wd_283 (by decide) rfl (k := 1) (ci := 3) (by decide) rfl rfl rfl (rest := [_, _, _, _]) (by rfl) (Nat.le_of_ble_eq_true rfl) d_Nf_addPlateProducts_62 (ki_ (fun r4 M3 hq => ?_))
      refine G_imul C d_Nf_addPlateProducts_65 ?_
      refine G_i2l C d_Nf_addPlateProducts_66 ?_
      refine G_callV C (s_Bal_add hq) v_Bal_add i_Bal_add z_Bal_add wd_359 (by decide) rfl (k := 15) (ci := 0) (by decide) rfl rfl rfl (rest := []) (by rfl) (Nat.le_of_ble_eq_true rfl) d_Nf_addPlateProducts_67 (kv_ (fun M5 hq => ?_))
      refine G_iinc C (v := _ + 1) (lv' := [(3, _), (0, _), (1, _), (2, _)]) 3 d_Nf_addPlateProducts_70 rfl rfl (by decide) rfl ?_
      refine G_goto C (tgt := 28) d_Nf_addPlateProducts_73 (by decide) ?_
      exact G_sub [1, 2, 3, 0] (by rfl) (ih _ _ _ _ hq)
def q_Nf_addPlateProducts_L15 (kx82 : Int32 → Mem → Prop) (post : Mem → Prop) : Nat → Int32 → Int32 → Mem → Prop
  | 0, _, _, _ => False
  | n + 1, x1, x2, M => ((M.1 1 2) ≤ x2 → kx82 x1 M) ∧ (¬ (M.1 1 2) ≤ x2 → ∃ n6, q_Nf_addPlateProducts_L28 (fun x7 x8 M9 => q_Nf_addPlateProducts_L15 kx82 post n x7 (x8 + 1) M9) post n6 x1 x2 (0 : Int32) M)
set_option maxHeartbeats 4000000 in
theorem s_Nf_addPlateProducts_L15 {γ : Gm} {κ : Kp} {post : Mem → Prop} {kx82 : Int32 → Mem → Prop} (C : Cx γ κ "NetForms" b_Nf_addPlateProducts 4 1 (0, 0)) (R : Rt γ (none)) (hx82 : ∀ y1 M', kx82 y1 M' → G γ κ 4 (0, 0) (Gq γ κ (pV post)) 82 [(0, .ref (κ.1 + 0)), (1, .int y1)] [] M') : ∀ (n : Nat) (x1 : Int32) (x2 : Int32) (M : Mem), q_Nf_addPlateProducts_L15 kx82 post n x1 x2 M → G γ κ 4 (0, 0) (Gq γ κ (pV post)) 15 [(0, .ref (κ.1 + 0)), (1, .int x1), (2, .int x2)] [] M := by
  intro n
  induction n with
  | zero => intro x1 x2 M hq; exact hq.elim
  | succ n ih =>
    intro x1 x2 M hq
    unfold q_Nf_addPlateProducts_L15 at hq
    refine G_iload_n C 2 d_Nf_addPlateProducts_15 rfl rfl ?_
    refine G_aload_n C 0 d_Nf_addPlateProducts_16 rfl rfl ?_
    refine Gg_Nf_shape C wd_163 d_Nf_addPlateProducts_17 ?_
    refine Gg_Net_plates C wd_33 d_Nf_addPlateProducts_20 ?_
    refine G_icmp_ge C (tgt := 82) d_Nf_addPlateProducts_23 (by decide) (fun c => ?_) (fun c => ?_)
    · replace hq := hq.1 c
      exact G_sub [0, 1] (by rfl) (hx82 _ _ hq)
    · replace hq := hq.2 c
      refine G_iconst C (v := 0) d_Nf_addPlateProducts_26 (by decide) ?_
      refine G_istore_n C (lv' := [(3, _), (0, _), (1, _), (2, _)]) d_Nf_addPlateProducts_27 rfl (by decide) rfl ?_
      obtain ⟨n6, hq⟩ := hq
      refine G_sub [1, 2, 3, 0] (by rfl) (s_Nf_addPlateProducts_L28 C R ?_ n6 _ _ _ _ hq)
      · intro x7 x8 M9 hq
        refine G_iinc C (v := _ + 1) (lv' := [(2, _), (0, _), (1, _)]) 2 d_Nf_addPlateProducts_76 rfl rfl (by decide) rfl ?_
        refine G_goto C (tgt := 15) d_Nf_addPlateProducts_79 (by decide) ?_
        exact G_sub [1, 2, 0] (by rfl) (ih _ _ _ hq)
def q_Nf_addPlateProducts_L2 (kx88 : Mem → Prop) (post : Mem → Prop) : Nat → Int32 → Mem → Prop
  | 0, _, _ => False
  | n + 1, x1, M => ((M.1 1 2) ≤ x1 → kx88 M) ∧ (¬ (M.1 1 2) ≤ x1 → ∃ n10, q_Nf_addPlateProducts_L15 (fun x11 M12 => q_Nf_addPlateProducts_L2 kx88 post n (x11 + 1) M12) post n10 x1 (0 : Int32) M)
set_option maxHeartbeats 4000000 in
theorem s_Nf_addPlateProducts_L2 {γ : Gm} {κ : Kp} {post : Mem → Prop} {kx88 : Mem → Prop} (C : Cx γ κ "NetForms" b_Nf_addPlateProducts 4 1 (0, 0)) (R : Rt γ (none)) (hx88 : ∀ M', kx88 M' → G γ κ 4 (0, 0) (Gq γ κ (pV post)) 88 [] [] M') : ∀ (n : Nat) (x1 : Int32) (M : Mem), q_Nf_addPlateProducts_L2 kx88 post n x1 M → G γ κ 4 (0, 0) (Gq γ κ (pV post)) 2 [(0, .ref (κ.1 + 0)), (1, .int x1)] [] M := by
  intro n
  induction n with
  | zero => intro x1 M hq; exact hq.elim
  | succ n ih =>
    intro x1 M hq
    unfold q_Nf_addPlateProducts_L2 at hq
    refine G_iload_n C 1 d_Nf_addPlateProducts_2 rfl rfl ?_
    refine G_aload_n C 0 d_Nf_addPlateProducts_3 rfl rfl ?_
    refine Gg_Nf_shape C wd_163 d_Nf_addPlateProducts_4 ?_
    refine Gg_Net_plates C wd_33 d_Nf_addPlateProducts_7 ?_
    refine G_icmp_ge C (tgt := 88) d_Nf_addPlateProducts_10 (by decide) (fun c => ?_) (fun c => ?_)
    · replace hq := hq.1 c
      exact G_sub [] (by rfl) (hx88 _ hq)
    · replace hq := hq.2 c
      refine G_iconst C (v := 0) d_Nf_addPlateProducts_13 (by decide) ?_
      refine G_istore_n C (lv' := [(2, _), (0, _), (1, _)]) d_Nf_addPlateProducts_14 rfl (by decide) rfl ?_
      obtain ⟨n10, hq⟩ := hq
      refine G_sub [1, 2, 0] (by rfl) (s_Nf_addPlateProducts_L15 C R ?_ n10 _ _ _ hq)
      · intro x11 M12 hq
        refine G_iinc C (v := _ + 1) (lv' := [(1, _), (0, _)]) 1 d_Nf_addPlateProducts_82 rfl rfl (by decide) rfl ?_
        refine G_goto C (tgt := 2) d_Nf_addPlateProducts_85 (by decide) ?_
        exact G_sub [1, 0] (by rfl) (ih _ _ hq)
def q_Nf_addPlateProducts (M : Mem) (post : Mem → Prop) : Prop := ∃ n13, q_Nf_addPlateProducts_L2 (fun M14 => post M14) post n13 (0 : Int32) M
set_option maxHeartbeats 4000000 in
theorem s_Nf_addPlateProducts {l : Launch} {κ : Kp} {M : Mem} {post : Mem → Prop} (hq : q_Nf_addPlateProducts M post) : Ct l κ y_Nf_addPlateProducts b_Nf_addPlateProducts 4 (none) 1 [.ref (κ.1 + 0)] M (pV post) := by
  refine Ct_of (by decide) (Nat.le_of_ble_eq_true rfl) (fun γ hγ C R => ?_)
  subst hγ
  unfold q_Nf_addPlateProducts at hq
  show G γ κ 4 (0, 0) (Gq γ κ (pV post)) 0 [(0, .ref (κ.1 + 0))] [] M
  refine G_iconst C (v := 0) d_Nf_addPlateProducts_0 (by decide) ?_
  refine G_istore_n C (lv' := [(1, _), (0, _)]) d_Nf_addPlateProducts_1 rfl (by decide) rfl ?_
  obtain ⟨n13, hq⟩ := hq
  refine G_sub [1, 0] (by rfl) (s_Nf_addPlateProducts_L2 C R ?_ n13 _ _ hq)
  · intro M14 hq
    exact G_vret C R d_Nf_addPlateProducts_88 ⟨rfl, hq⟩
theorem d_Bal_clear_0 : decode b_Bal_clear 0 = .ok (.iload_n 1, 1) := by decide +kernel
theorem d_Bal_clear_1 : decode b_Bal_clear 1 = .ok (.iload_n 2, 1) := by decide +kernel
theorem d_Bal_clear_2 : decode b_Bal_clear 2 = .ok (.if_icmp .ne 4, 3) := by decide +kernel
theorem d_Bal_clear_5 : decode b_Bal_clear 5 = .ok (.return_, 1) := by decide +kernel
theorem d_Bal_clear_6 : decode b_Bal_clear 6 = .ok (.aload_n 0, 1) := by decide +kernel
theorem d_Bal_clear_7 : decode b_Bal_clear 7 = .ok (.getfield 11, 3) := by decide +kernel
theorem d_Bal_clear_10 : decode b_Bal_clear 10 = .ok (.iload_n 1, 1) := by decide +kernel
theorem d_Bal_clear_11 : decode b_Bal_clear 11 = .ok (.aaload, 1) := by decide +kernel
theorem d_Bal_clear_12 : decode b_Bal_clear 12 = .ok (.iload_n 2, 1) := by decide +kernel
theorem d_Bal_clear_13 : decode b_Bal_clear 13 = .ok (.laload, 1) := by decide +kernel
theorem d_Bal_clear_14 : decode b_Bal_clear 14 = .ok (.lstore 5, 2) := by decide +kernel
theorem d_Bal_clear_16 : decode b_Bal_clear 16 = .ok (.iconst 0, 1) := by decide +kernel
theorem d_Bal_clear_17 : decode b_Bal_clear 17 = .ok (.istore 7, 2) := by decide +kernel
theorem d_Bal_clear_19 : decode b_Bal_clear 19 = .ok (.iload 7, 2) := by decide +kernel
theorem d_Bal_clear_21 : decode b_Bal_clear 21 = .ok (.aload_n 0, 1) := by decide +kernel
theorem d_Bal_clear_22 : decode b_Bal_clear 22 = .ok (.getfield 24, 3) := by decide +kernel
theorem d_Bal_clear_25 : decode b_Bal_clear 25 = .ok (.if_icmp .ge 49, 3) := by decide +kernel
theorem d_Bal_clear_28 : decode b_Bal_clear 28 = .ok (.aload_n 0, 1) := by decide +kernel
theorem d_Bal_clear_29 : decode b_Bal_clear 29 = .ok (.getfield 11, 3) := by decide +kernel
theorem d_Bal_clear_32 : decode b_Bal_clear 32 = .ok (.iload_n 1, 1) := by decide +kernel
theorem d_Bal_clear_33 : decode b_Bal_clear 33 = .ok (.aaload, 1) := by decide +kernel
theorem d_Bal_clear_34 : decode b_Bal_clear 34 = .ok (.iload 7, 2) := by decide +kernel
theorem d_Bal_clear_36 : decode b_Bal_clear 36 = .ok (.lload_n 3, 1) := by decide +kernel
theorem d_Bal_clear_37 : decode b_Bal_clear 37 = .ok (.aload_n 0, 1) := by decide +kernel
theorem d_Bal_clear_38 : decode b_Bal_clear 38 = .ok (.getfield 11, 3) := by decide +kernel
theorem d_Bal_clear_41 : decode b_Bal_clear 41 = .ok (.iload_n 1, 1) := by decide +kernel
theorem d_Bal_clear_42 : decode b_Bal_clear 42 = .ok (.aaload, 1) := by decide +kernel
theorem d_Bal_clear_43 : decode b_Bal_clear 43 = .ok (.iload 7, 2) := by decide +kernel
theorem d_Bal_clear_45 : decode b_Bal_clear 45 = .ok (.laload, 1) := by decide +kernel
theorem d_Bal_clear_46 : decode b_Bal_clear 46 = .ok (.lmul, 1) := by decide +kernel
theorem d_Bal_clear_47 : decode b_Bal_clear 47 = .ok (.lload 5, 2) := by decide +kernel
theorem d_Bal_clear_49 : decode b_Bal_clear 49 = .ok (.aload_n 0, 1) := by decide +kernel
theorem d_Bal_clear_50 : decode b_Bal_clear 50 = .ok (.getfield 11, 3) := by decide +kernel
theorem d_Bal_clear_53 : decode b_Bal_clear 53 = .ok (.iload_n 2, 1) := by decide +kernel
theorem d_Bal_clear_54 : decode b_Bal_clear 54 = .ok (.aaload, 1) := by decide +kernel
theorem d_Bal_clear_55 : decode b_Bal_clear 55 = .ok (.iload 7, 2) := by decide +kernel
theorem d_Bal_clear_57 : decode b_Bal_clear 57 = .ok (.laload, 1) := by decide +kernel
theorem d_Bal_clear_58 : decode b_Bal_clear 58 = .ok (.lmul, 1) := by decide +kernel
theorem d_Bal_clear_59 : decode b_Bal_clear 59 = .ok (.lsub, 1) := by decide +kernel
theorem d_Bal_clear_60 : decode b_Bal_clear 60 = .ok (.aload_n 0, 1) := by decide +kernel
theorem d_Bal_clear_61 : decode b_Bal_clear 61 = .ok (.getfield 37, 3) := by decide +kernel
theorem d_Bal_clear_64 : decode b_Bal_clear 64 = .ok (.invokestatic 45, 3) := by decide +kernel
theorem d_Bal_clear_67 : decode b_Bal_clear 67 = .ok (.lastore, 1) := by decide +kernel
theorem d_Bal_clear_68 : decode b_Bal_clear 68 = .ok (.iinc 7 1, 3) := by decide +kernel
theorem d_Bal_clear_71 : decode b_Bal_clear 71 = .ok (.goto (-52), 3) := by decide +kernel
theorem d_Bal_clear_74 : decode b_Bal_clear 74 = .ok (.aload_n 0, 1) := by decide +kernel
theorem d_Bal_clear_75 : decode b_Bal_clear 75 = .ok (.getfield 14, 3) := by decide +kernel
theorem d_Bal_clear_78 : decode b_Bal_clear 78 = .ok (.iload_n 1, 1) := by decide +kernel
theorem d_Bal_clear_79 : decode b_Bal_clear 79 = .ok (.lload_n 3, 1) := by decide +kernel
theorem d_Bal_clear_80 : decode b_Bal_clear 80 = .ok (.aload_n 0, 1) := by decide +kernel
theorem d_Bal_clear_81 : decode b_Bal_clear 81 = .ok (.getfield 14, 3) := by decide +kernel
theorem d_Bal_clear_84 : decode b_Bal_clear 84 = .ok (.iload_n 1, 1) := by decide +kernel
theorem d_Bal_clear_85 : decode b_Bal_clear 85 = .ok (.laload, 1) := by decide +kernel
theorem d_Bal_clear_86 : decode b_Bal_clear 86 = .ok (.lmul, 1) := by decide +kernel
theorem d_Bal_clear_87 : decode b_Bal_clear 87 = .ok (.lload 5, 2) := by decide +kernel
theorem d_Bal_clear_89 : decode b_Bal_clear 89 = .ok (.aload_n 0, 1) := by decide +kernel
theorem d_Bal_clear_90 : decode b_Bal_clear 90 = .ok (.getfield 14, 3) := by decide +kernel
theorem d_Bal_clear_93 : decode b_Bal_clear 93 = .ok (.iload_n 2, 1) := by decide +kernel
theorem d_Bal_clear_94 : decode b_Bal_clear 94 = .ok (.laload, 1) := by decide +kernel
theorem d_Bal_clear_95 : decode b_Bal_clear 95 = .ok (.lmul, 1) := by decide +kernel
theorem d_Bal_clear_96 : decode b_Bal_clear 96 = .ok (.lsub, 1) := by decide +kernel
theorem d_Bal_clear_97 : decode b_Bal_clear 97 = .ok (.aload_n 0, 1) := by decide +kernel
theorem d_Bal_clear_98 : decode b_Bal_clear 98 = .ok (.getfield 37, 3) := by decide +kernel
theorem d_Bal_clear_101 : decode b_Bal_clear 101 = .ok (.invokestatic 45, 3) := by decide +kernel
theorem d_Bal_clear_104 : decode b_Bal_clear 104 = .ok (.lastore, 1) := by decide +kernel
theorem d_Bal_clear_105 : decode b_Bal_clear 105 = .ok (.return_, 1) := by decide +kernel
def q_Bal_clear_L19 (kx74 : Int32 → Int32 → Int64 → Int64 → Mem → Prop) (post : Mem → Prop) : Nat → Int32 → Int32 → Int64 → Int64 → Int32 → Mem → Prop
  | 0, _, _, _, _, _, _ => False
  | n + 1, x1, x2, x3, x5, x7, M => ((M.1 15 0) ≤ x7 → kx74 x1 x2 x3 x5 M) ∧ (¬ (M.1 15 0) ≤ x7 → vp_in x1 10 ∧ (vp_in x1 10 ∧ (vp_in x7 10 ∧ (vp_in x2 10 ∧ (vp_in x7 10 ∧ (q_Nf_quotient ((x3 * (M.2 (17 + x1.toNatClampNeg) x7.toNatClampNeg)) - (x5 * (M.2 (17 + x2.toNatClampNeg) x7.toNatClampNeg))) (M.2 15 4) M (fun r6 M5 => vp_in x7 10 ∧ (∀ M7, M7 = wJ M5 (17 + x1.toNatClampNeg) x7.toNatClampNeg r6 → q_Bal_clear_L19 kx74 post n x1 x2 x3 x5 (x7 + 1) M7))))))))
set_option maxHeartbeats 4000000 in
theorem s_Bal_clear_L19 {γ : Gm} {κ : Kp} {post : Mem → Prop} {kx74 : Int32 → Int32 → Int64 → Int64 → Mem → Prop} (C : Cx γ κ "NetForms$Balance" b_Bal_clear 8 1 (0, 0)) (R : Rt γ (none)) (hx74 : ∀ y1 y2 y3 y4 M', kx74 y1 y2 y3 y4 M' → G γ κ 8 (0, 0) (Gq γ κ (pV post)) 74 [(0, .ref (κ.1 + 15)), (1, .int y1), (2, .int y2), (3, .long y3), (5, .long y4)] [] M') : ∀ (n : Nat) (x1 : Int32) (x2 : Int32) (x3 : Int64) (x5 : Int64) (x7 : Int32) (M : Mem), q_Bal_clear_L19 kx74 post n x1 x2 x3 x5 x7 M → G γ κ 8 (0, 0) (Gq γ κ (pV post)) 19 [(0, .ref (κ.1 + 15)), (1, .int x1), (2, .int x2), (3, .long x3), (5, .long x5), (7, .int x7)] [] M := by
  intro n
  induction n with
  | zero => intro x1 x2 x3 x5 x7 M hq; exact hq.elim
  | succ n ih =>
    intro x1 x2 x3 x5 x7 M hq
    unfold q_Bal_clear_L19 at hq
    refine G_iload C 5 d_Bal_clear_19 rfl ?_
    refine G_aload_n C 0 d_Bal_clear_21 rfl rfl ?_
    refine Gg_Bal_size C wd_113 d_Bal_clear_22 ?_
    refine G_icmp_ge C (tgt := 74) d_Bal_clear_25 (by decide) (fun c => ?_) (fun c => ?_)
    · replace hq := hq.1 c
      exact G_sub [0, 1, 2, 3, 4] (by rfl) (hx74 _ _ _ _ _ hq)
    · replace hq := hq.2 c
      refine G_aload_n C 0 d_Bal_clear_28 rfl rfl ?_
      refine Gg_Bal_table C wd_114 d_Bal_clear_29 ?_
      refine G_iload_n C 1 d_Bal_clear_32 rfl rfl ?_
      have hr2 := hq.1
      replace hq := hq.2
      refine G_aaT C hr2 d_Bal_clear_33 ?_
      refine G_iload C 5 d_Bal_clear_34 rfl ?_
      refine G_lload_n C 3 d_Bal_clear_36 rfl rfl ?_
      refine G_aload_n C 0 d_Bal_clear_37 rfl rfl ?_
      refine Gg_Bal_table C wd_114 d_Bal_clear_38 ?_
      refine G_iload_n C 1 d_Bal_clear_41 rfl rfl ?_
      have hr3 := hq.1
      replace hq := hq.2
      refine G_aaT C hr3 d_Bal_clear_42 ?_
      refine G_iload C 5 d_Bal_clear_43 rfl ?_
      refine G_laload C (by have := vp_lt hr3; omega) (sh_tabA κ (vp_lt hr3)) hq.1 d_Bal_clear_45 ?_
      replace hq := hq.2
      refine G_lmul C d_Bal_clear_46 ?_
      refine G_lload C 4 d_Bal_clear_47 rfl ?_
      refine G_aload_n C 0 d_Bal_clear_49 rfl rfl ?_
      refine Gg_Bal_table C wd_114 d_Bal_clear_50 ?_
      refine G_iload_n C 2 d_Bal_clear_53 rfl rfl ?_
      have hr4 := hq.1
      replace hq := hq.2
      refine G_aaT C hr4 d_Bal_clear_54 ?_
      refine G_iload C 5 d_Bal_clear_55 rfl ?_
      refine G_laload C (by have := vp_lt hr4; omega) (sh_tabA κ (vp_lt hr4)) hq.1 d_Bal_clear_57 ?_
      replace hq := hq.2
      refine G_lmul C d_Bal_clear_58 ?_
      refine G_lsub C d_Bal_clear_59 ?_
      refine G_aload_n C 0 d_Bal_clear_60 rfl rfl ?_
      refine Gg_Bal_below C wd_118 d_Bal_clear_61 ?_
      refine G_callSN C (s_Nf_quotient hq) v_Nf_quotient z_Nf_quotient ne_371 (by decide) rfl (rest := [_, _]) (by rfl) (Nat.le_of_ble_eq_true rfl) d_Bal_clear_64 (kj_ (fun r6 M5 hq => ?_))
      refine G_lastore C (by have := vp_lt hr2; omega) (sh_tabA κ (vp_lt hr2)) hq.1 d_Bal_clear_67 ?_
      replace hq := hq.2 _ rfl
      refine G_iinc C (v := _ + 1) (lv' := [(7, _), (0, _), (1, _), (2, _), (3, _), (5, _)]) 5 d_Bal_clear_68 rfl rfl (by decide) rfl ?_
      refine G_goto C (tgt := 19) d_Bal_clear_71 (by decide) ?_
      exact G_sub [1, 2, 3, 4, 5, 0] (by rfl) (ih _ _ _ _ _ _ hq)
def q_Bal_clear (a1 : Int32) (a2 : Int32) (a3 : Int64) (M : Mem) (post : Mem → Prop) : Prop := (¬ a1 = a2 → vp_in a1 10 ∧ (vp_in a2 10 ∧ (∃ n8, q_Bal_clear_L19 (fun x9 x10 x11 x12 M13 => vp_in x9 10 ∧ (vp_in x10 10 ∧ (q_Nf_quotient ((x11 * (M13.2 27 x9.toNatClampNeg)) - (x12 * (M13.2 27 x10.toNatClampNeg))) (M13.2 15 4) M13 (fun r15 M14 => vp_in x9 10 ∧ (∀ M16, M16 = wJ M14 27 x9.toNatClampNeg r15 → post M16))))) post n8 a1 a2 a3 (M.2 (17 + a1.toNatClampNeg) a2.toNatClampNeg) (0 : Int32) M))) ∧ (a1 = a2 → post M)
set_option maxHeartbeats 4000000 in
theorem s_Bal_clear {l : Launch} {κ : Kp} {a1 : Int32} {a2 : Int32} {a3 : Int64} {M : Mem} {post : Mem → Prop} (hq : q_Bal_clear a1 a2 a3 M post) : Ct l κ y_Bal_clear b_Bal_clear 8 (none) 1 [.ref (κ.1 + 15), .int a1, .int a2, .long a3] M (pV post) := by
  refine Ct_of (by decide) (Nat.le_of_ble_eq_true rfl) (fun γ hγ C R => ?_)
  subst hγ
  unfold q_Bal_clear at hq
  show G γ κ 8 (0, 0) (Gq γ κ (pV post)) 0 [(0, .ref (κ.1 + 15)), (1, .int a1), (2, .int a2), (3, .long a3)] [] M
  refine G_iload_n C 1 d_Bal_clear_0 rfl rfl ?_
  refine G_iload_n C 2 d_Bal_clear_1 rfl rfl ?_
  refine G_icmp_ne C (tgt := 6) d_Bal_clear_2 (by decide) (fun c => ?_) (fun c => ?_)
  · replace hq := hq.1 c
    refine G_aload_n C 0 d_Bal_clear_6 rfl rfl ?_
    refine Gg_Bal_table C wd_114 d_Bal_clear_7 ?_
    refine G_iload_n C 1 d_Bal_clear_10 rfl rfl ?_
    have hr1 := hq.1
    replace hq := hq.2
    refine G_aaT C hr1 d_Bal_clear_11 ?_
    refine G_iload_n C 2 d_Bal_clear_12 rfl rfl ?_
    refine G_laload C (by have := vp_lt hr1; omega) (sh_tabA κ (vp_lt hr1)) hq.1 d_Bal_clear_13 ?_
    replace hq := hq.2
    refine G_lstore C (lv' := [(5, _), (0, _), (1, _), (2, _), (3, _)]) d_Bal_clear_14 (by decide) rfl ?_
    refine G_iconst C (v := 0) d_Bal_clear_16 (by decide) ?_
    refine G_istore C (lv' := [(7, _), (5, _), (0, _), (1, _), (2, _), (3, _)]) d_Bal_clear_17 (by decide) rfl ?_
    obtain ⟨n8, hq⟩ := hq
    refine G_sub [2, 3, 4, 5, 1, 0] (by rfl) (s_Bal_clear_L19 C R ?_ n8 _ _ _ _ _ _ hq)
    · intro x9 x10 x11 x12 M13 hq
      refine G_aload_n C 0 d_Bal_clear_74 rfl rfl ?_
      refine Gg_Bal_dues C wd_115 d_Bal_clear_75 ?_
      refine G_iload_n C 1 d_Bal_clear_78 rfl rfl ?_
      refine G_lload_n C 3 d_Bal_clear_79 rfl rfl ?_
      refine G_aload_n C 0 d_Bal_clear_80 rfl rfl ?_
      refine Gg_Bal_dues C wd_115 d_Bal_clear_81 ?_
      refine G_iload_n C 1 d_Bal_clear_84 rfl rfl ?_
      refine G_laload C (k := 27) (by decide) (fun _ _ => rfl) hq.1 d_Bal_clear_85 ?_
      replace hq := hq.2
      refine G_lmul C d_Bal_clear_86 ?_
      refine G_lload C 4 d_Bal_clear_87 rfl ?_
      refine G_aload_n C 0 d_Bal_clear_89 rfl rfl ?_
      refine Gg_Bal_dues C wd_115 d_Bal_clear_90 ?_
      refine G_iload_n C 2 d_Bal_clear_93 rfl rfl ?_
      refine G_laload C (k := 27) (by decide) (fun _ _ => rfl) hq.1 d_Bal_clear_94 ?_
      replace hq := hq.2
      refine G_lmul C d_Bal_clear_95 ?_
      refine G_lsub C d_Bal_clear_96 ?_
      refine G_aload_n C 0 d_Bal_clear_97 rfl rfl ?_
      refine Gg_Bal_below C wd_118 d_Bal_clear_98 ?_
      refine G_callSN C (s_Nf_quotient hq) v_Nf_quotient z_Nf_quotient ne_371 (by decide) rfl (rest := [_, _]) (by rfl) (Nat.le_of_ble_eq_true rfl) d_Bal_clear_101 (kj_ (fun r15 M14 hq => ?_))
      refine G_lastore C (k := 27) (by decide) (fun _ _ => rfl) hq.1 d_Bal_clear_104 ?_
      replace hq := hq.2 _ rfl
      exact G_vret C R d_Bal_clear_105 ⟨rfl, hq⟩
  · replace hq := hq.2 c
    exact G_vret C R d_Bal_clear_5 ⟨rfl, hq⟩
theorem d_Cli_join_0 : decode b_Cli_join 0 = .ok (.iload_n 1, 1) := by decide +kernel
theorem d_Cli_join_1 : decode b_Cli_join 1 = .ok (.iload_n 2, 1) := by decide +kernel
theorem d_Cli_join_2 : decode b_Cli_join 2 = .ok (.invokestatic 40, 3) := by decide +kernel
theorem d_Cli_join_5 : decode b_Cli_join 5 = .ok (.istore 5, 2) := by decide +kernel
theorem d_Cli_join_7 : decode b_Cli_join 7 = .ok (.iconst 0, 1) := by decide +kernel
theorem d_Cli_join_8 : decode b_Cli_join 8 = .ok (.istore 6, 2) := by decide +kernel
theorem d_Cli_join_10 : decode b_Cli_join 10 = .ok (.iload 6, 2) := by decide +kernel
theorem d_Cli_join_12 : decode b_Cli_join 12 = .ok (.bipush 6, 2) := by decide +kernel
theorem d_Cli_join_14 : decode b_Cli_join 14 = .ok (.if_icmp .ge 63, 3) := by decide +kernel
theorem d_Cli_join_17 : decode b_Cli_join 17 = .ok (.aload_n 0, 1) := by decide +kernel
theorem d_Cli_join_18 : decode b_Cli_join 18 = .ok (.getfield 15, 3) := by decide +kernel
theorem d_Cli_join_21 : decode b_Cli_join 21 = .ok (.iload 6, 2) := by decide +kernel
theorem d_Cli_join_23 : decode b_Cli_join 23 = .ok (.iaload, 1) := by decide +kernel
theorem d_Cli_join_24 : decode b_Cli_join 24 = .ok (.iload_n 2, 1) := by decide +kernel
theorem d_Cli_join_25 : decode b_Cli_join 25 = .ok (.if_icmp .ne 26, 3) := by decide +kernel
theorem d_Cli_join_28 : decode b_Cli_join 28 = .ok (.aload_n 0, 1) := by decide +kernel
theorem d_Cli_join_29 : decode b_Cli_join 29 = .ok (.getfield 9, 3) := by decide +kernel
theorem d_Cli_join_32 : decode b_Cli_join 32 = .ok (.iload 6, 2) := by decide +kernel
theorem d_Cli_join_34 : decode b_Cli_join 34 = .ok (.dup2, 1) := by decide +kernel
theorem d_Cli_join_35 : decode b_Cli_join 35 = .ok (.laload, 1) := by decide +kernel
theorem d_Cli_join_36 : decode b_Cli_join 36 = .ok (.lload_n 3, 1) := by decide +kernel
theorem d_Cli_join_37 : decode b_Cli_join 37 = .ok (.ladd, 1) := by decide +kernel
theorem d_Cli_join_38 : decode b_Cli_join 38 = .ok (.lastore, 1) := by decide +kernel
theorem d_Cli_join_39 : decode b_Cli_join 39 = .ok (.aload_n 0, 1) := by decide +kernel
theorem d_Cli_join_40 : decode b_Cli_join 40 = .ok (.getfield 15, 3) := by decide +kernel
theorem d_Cli_join_43 : decode b_Cli_join 43 = .ok (.iload 6, 2) := by decide +kernel
theorem d_Cli_join_45 : decode b_Cli_join 45 = .ok (.iload 5, 2) := by decide +kernel
theorem d_Cli_join_47 : decode b_Cli_join 47 = .ok (.iastore, 1) := by decide +kernel
theorem d_Cli_join_48 : decode b_Cli_join 48 = .ok (.goto 23, 3) := by decide +kernel
theorem d_Cli_join_51 : decode b_Cli_join 51 = .ok (.aload_n 0, 1) := by decide +kernel
theorem d_Cli_join_52 : decode b_Cli_join 52 = .ok (.getfield 15, 3) := by decide +kernel
theorem d_Cli_join_55 : decode b_Cli_join 55 = .ok (.iload 6, 2) := by decide +kernel
theorem d_Cli_join_57 : decode b_Cli_join 57 = .ok (.iaload, 1) := by decide +kernel
theorem d_Cli_join_58 : decode b_Cli_join 58 = .ok (.iload_n 1, 1) := by decide +kernel
theorem d_Cli_join_59 : decode b_Cli_join 59 = .ok (.if_icmp .ne 12, 3) := by decide +kernel
theorem d_Cli_join_62 : decode b_Cli_join 62 = .ok (.aload_n 0, 1) := by decide +kernel
theorem d_Cli_join_63 : decode b_Cli_join 63 = .ok (.getfield 15, 3) := by decide +kernel
theorem d_Cli_join_66 : decode b_Cli_join 66 = .ok (.iload 6, 2) := by decide +kernel
theorem d_Cli_join_68 : decode b_Cli_join 68 = .ok (.iload 5, 2) := by decide +kernel
theorem d_Cli_join_70 : decode b_Cli_join 70 = .ok (.iastore, 1) := by decide +kernel
theorem d_Cli_join_71 : decode b_Cli_join 71 = .ok (.iinc 6 1, 3) := by decide +kernel
theorem d_Cli_join_74 : decode b_Cli_join 74 = .ok (.goto (-64), 3) := by decide +kernel
theorem d_Cli_join_77 : decode b_Cli_join 77 = .ok (.return_, 1) := by decide +kernel
def q_Cli_join_L10 (kx77 : Mem → Prop) (post : Mem → Prop) : Nat → Int32 → Int32 → Int64 → Int32 → Int32 → Mem → Prop
  | 0, _, _, _, _, _, _ => False
  | n + 1, x1, x2, x3, x5, x6, M => ((6 : Int32) ≤ x6 → kx77 M) ∧ (¬ (6 : Int32) ≤ x6 → vp_in x6 6 ∧ ((¬ (M.1 30 x6.toNatClampNeg) = x2 → vp_in x6 6 ∧ ((¬ (M.1 30 x6.toNatClampNeg) = x1 → q_Cli_join_L10 kx77 post n x1 x2 x3 x5 (x6 + 1) M) ∧ ((M.1 30 x6.toNatClampNeg) = x1 → vp_in x6 6 ∧ (∀ M1, M1 = wI M 30 x6.toNatClampNeg x5 → q_Cli_join_L10 kx77 post n x1 x2 x3 x5 (x6 + 1) M1)))) ∧ ((M.1 30 x6.toNatClampNeg) = x2 → vp_in x6 6 ∧ (vp_in x6 6 ∧ (∀ M2, M2 = wJ M 29 x6.toNatClampNeg ((M.2 29 x6.toNatClampNeg) + x3) → vp_in x6 6 ∧ (∀ M3, M3 = wI M2 30 x6.toNatClampNeg x5 → q_Cli_join_L10 kx77 post n x1 x2 x3 x5 (x6 + 1) M3))))))
set_option maxHeartbeats 4000000 in
theorem s_Cli_join_L10 {γ : Gm} {κ : Kp} {post : Mem → Prop} {kx77 : Mem → Prop} (C : Cx γ κ "NetForms$Climb" b_Cli_join 7 1 (0, 0)) (R : Rt γ (none)) (hx77 : ∀ M', kx77 M' → G γ κ 7 (0, 0) (Gq γ κ (pV post)) 77 [] [] M') : ∀ (n : Nat) (x1 : Int32) (x2 : Int32) (x3 : Int64) (x5 : Int32) (x6 : Int32) (M : Mem), q_Cli_join_L10 kx77 post n x1 x2 x3 x5 x6 M → G γ κ 7 (0, 0) (Gq γ κ (pV post)) 10 [(0, .ref (κ.1 + 28)), (1, .int x1), (2, .int x2), (3, .long x3), (5, .int x5), (6, .int x6)] [] M := by
  intro n
  induction n with
  | zero => intro x1 x2 x3 x5 x6 M hq; exact hq.elim
  | succ n ih =>
    intro x1 x2 x3 x5 x6 M hq
    unfold q_Cli_join_L10 at hq
    refine G_iload C 5 d_Cli_join_10 rfl ?_
    refine G_bipush C (v := 6) d_Cli_join_12 (by decide) ?_
    refine G_icmp_ge C (tgt := 77) d_Cli_join_14 (by decide) (fun c => ?_) (fun c => ?_)
    · replace hq := hq.1 c
      exact G_sub [] (by rfl) (hx77 _ hq)
    · replace hq := hq.2 c
      refine G_aload_n C 0 d_Cli_join_17 rfl rfl ?_
      refine Gg_Cli_leasts C wd_138 d_Cli_join_18 ?_
      refine G_iload C 5 d_Cli_join_21 rfl ?_
      refine G_iaload C (k := 30) (by decide) (fun _ _ => rfl) hq.1 d_Cli_join_23 ?_
      replace hq := hq.2
      refine G_iload_n C 2 d_Cli_join_24 rfl rfl ?_
      refine G_icmp_ne C (tgt := 51) d_Cli_join_25 (by decide) (fun c => ?_) (fun c => ?_)
      · replace hq := hq.1 c
        refine G_aload_n C 0 d_Cli_join_51 rfl rfl ?_
        refine Gg_Cli_leasts C wd_138 d_Cli_join_52 ?_
        refine G_iload C 5 d_Cli_join_55 rfl ?_
        refine G_iaload C (k := 30) (by decide) (fun _ _ => rfl) hq.1 d_Cli_join_57 ?_
        replace hq := hq.2
        refine G_iload_n C 1 d_Cli_join_58 rfl rfl ?_
        refine G_icmp_ne C (tgt := 71) d_Cli_join_59 (by decide) (fun c => ?_) (fun c => ?_)
        · replace hq := hq.1 c
          refine G_iinc C (v := _ + 1) (lv' := [(6, _), (0, _), (1, _), (2, _), (3, _), (5, _)]) 5 d_Cli_join_71 rfl rfl (by decide) rfl ?_
          refine G_goto C (tgt := 10) d_Cli_join_74 (by decide) ?_
          exact G_sub [1, 2, 3, 4, 5, 0] (by rfl) (ih _ _ _ _ _ _ hq)
        · replace hq := hq.2 c
          refine G_aload_n C 0 d_Cli_join_62 rfl rfl ?_
          refine Gg_Cli_leasts C wd_138 d_Cli_join_63 ?_
          refine G_iload C 5 d_Cli_join_66 rfl ?_
          refine G_iload C 4 d_Cli_join_68 rfl ?_
          refine G_iastore C (k := 30) (by decide) (fun _ _ => rfl) hq.1 d_Cli_join_70 ?_
          replace hq := hq.2 _ rfl
          refine G_iinc C (v := _ + 1) (lv' := [(6, _), (0, _), (1, _), (2, _), (3, _), (5, _)]) 5 d_Cli_join_71 rfl rfl (by decide) rfl ?_
          refine G_goto C (tgt := 10) d_Cli_join_74 (by decide) ?_
          exact G_sub [1, 2, 3, 4, 5, 0] (by rfl) (ih _ _ _ _ _ _ hq)
      · replace hq := hq.2 c
        refine G_aload_n C 0 d_Cli_join_28 rfl rfl ?_
        refine Gg_Cli_climbed C wd_137 d_Cli_join_29 ?_
        refine G_iload C 5 d_Cli_join_32 rfl ?_
        refine G_dup2 C d_Cli_join_34 rfl rfl ?_
        refine G_laload C (k := 29) (by decide) (fun _ _ => rfl) hq.1 d_Cli_join_35 ?_
        replace hq := hq.2
        refine G_lload_n C 3 d_Cli_join_36 rfl rfl ?_
        refine G_ladd C d_Cli_join_37 ?_
        refine G_lastore C (k := 29) (by decide) (fun _ _ => rfl) hq.1 d_Cli_join_38 ?_
        replace hq := hq.2 _ rfl
        refine G_aload_n C 0 d_Cli_join_39 rfl rfl ?_
        refine Gg_Cli_leasts C wd_138 d_Cli_join_40 ?_
        refine G_iload C 5 d_Cli_join_43 rfl ?_
        refine G_iload C 4 d_Cli_join_45 rfl ?_
        refine G_iastore C (k := 30) (by decide) (fun _ _ => rfl) hq.1 d_Cli_join_47 ?_
        replace hq := hq.2 _ rfl
        refine G_goto C (tgt := 71) d_Cli_join_48 (by decide) ?_
        refine G_iinc C (v := _ + 1) (lv' := [(6, _), (0, _), (1, _), (2, _), (3, _), (5, _)]) 5 d_Cli_join_71 rfl rfl (by decide) rfl ?_
        refine G_goto C (tgt := 10) d_Cli_join_74 (by decide) ?_
        exact G_sub [1, 2, 3, 4, 5, 0] (by rfl) (ih _ _ _ _ _ _ hq)
def q_Cli_join (a1 : Int32) (a2 : Int32) (a3 : Int64) (M : Mem) (post : Mem → Prop) : Prop := ∃ n4, q_Cli_join_L10 (fun M5 => post M5) post n4 a1 a2 a3 (if a2 < a1 then a2 else a1) (0 : Int32) M
set_option maxHeartbeats 4000000 in
theorem s_Cli_join {l : Launch} {κ : Kp} {a1 : Int32} {a2 : Int32} {a3 : Int64} {M : Mem} {post : Mem → Prop} (hq : q_Cli_join a1 a2 a3 M post) : Ct l κ y_Cli_join b_Cli_join 7 (none) 1 [.ref (κ.1 + 28), .int a1, .int a2, .long a3] M (pV post) := by
  refine Ct_of (by decide) (Nat.le_of_ble_eq_true rfl) (fun γ hγ C R => ?_)
  subst hγ
  unfold q_Cli_join at hq
  show G γ κ 7 (0, 0) (Gq γ κ (pV post)) 0 [(0, .ref (κ.1 + 28)), (1, .int a1), (2, .int a2), (3, .long a3)] [] M
  refine G_iload_n C 1 d_Cli_join_0 rfl rfl ?_
  refine G_iload_n C 2 d_Cli_join_1 rfl rfl ?_
  refine G_min C wd_386 (by decide) (Nat.le_of_ble_eq_true rfl) d_Cli_join_2 ?_
  refine G_istore C (lv' := [(5, _), (0, _), (1, _), (2, _), (3, _)]) d_Cli_join_5 (by decide) rfl ?_
  refine G_iconst C (v := 0) d_Cli_join_7 (by decide) ?_
  refine G_istore C (lv' := [(6, _), (5, _), (0, _), (1, _), (2, _), (3, _)]) d_Cli_join_8 (by decide) rfl ?_
  obtain ⟨n4, hq⟩ := hq
  refine G_sub [2, 3, 4, 5, 1, 0] (by rfl) (s_Cli_join_L10 C R ?_ n4 _ _ _ _ _ _ hq)
  · intro M5 hq
    exact G_vret C R d_Cli_join_77 ⟨rfl, hq⟩
theorem d_Nf_sharedDivisor_0 : decode b_Nf_sharedDivisor 0 = .ok (.lload_n 0, 1) := by decide +kernel
theorem d_Nf_sharedDivisor_1 : decode b_Nf_sharedDivisor 1 = .ok (.invokestatic 275, 3) := by decide +kernel
theorem d_Nf_sharedDivisor_4 : decode b_Nf_sharedDivisor 4 = .ok (.lstore 4, 2) := by decide +kernel
theorem d_Nf_sharedDivisor_6 : decode b_Nf_sharedDivisor 6 = .ok (.lload_n 2, 1) := by decide +kernel
theorem d_Nf_sharedDivisor_7 : decode b_Nf_sharedDivisor 7 = .ok (.invokestatic 275, 3) := by decide +kernel
theorem d_Nf_sharedDivisor_10 : decode b_Nf_sharedDivisor 10 = .ok (.lstore 6, 2) := by decide +kernel
theorem d_Nf_sharedDivisor_12 : decode b_Nf_sharedDivisor 12 = .ok (.iconst 0, 1) := by decide +kernel
theorem d_Nf_sharedDivisor_13 : decode b_Nf_sharedDivisor 13 = .ok (.istore 8, 2) := by decide +kernel
theorem d_Nf_sharedDivisor_15 : decode b_Nf_sharedDivisor 15 = .ok (.iload 8, 2) := by decide +kernel
theorem d_Nf_sharedDivisor_17 : decode b_Nf_sharedDivisor 17 = .ok (.bipush 100, 2) := by decide +kernel
theorem d_Nf_sharedDivisor_19 : decode b_Nf_sharedDivisor 19 = .ok (.if_icmp .ge 31, 3) := by decide +kernel
theorem d_Nf_sharedDivisor_22 : decode b_Nf_sharedDivisor 22 = .ok (.lload 6, 2) := by decide +kernel
theorem d_Nf_sharedDivisor_24 : decode b_Nf_sharedDivisor 24 = .ok (.lconst 0, 1) := by decide +kernel
theorem d_Nf_sharedDivisor_25 : decode b_Nf_sharedDivisor 25 = .ok (.lcmp, 1) := by decide +kernel
theorem d_Nf_sharedDivisor_26 : decode b_Nf_sharedDivisor 26 = .ok (.ifCond .eq 24, 3) := by decide +kernel
theorem d_Nf_sharedDivisor_29 : decode b_Nf_sharedDivisor 29 = .ok (.lload 4, 2) := by decide +kernel
theorem d_Nf_sharedDivisor_31 : decode b_Nf_sharedDivisor 31 = .ok (.lload 6, 2) := by decide +kernel
theorem d_Nf_sharedDivisor_33 : decode b_Nf_sharedDivisor 33 = .ok (.lrem, 1) := by decide +kernel
theorem d_Nf_sharedDivisor_34 : decode b_Nf_sharedDivisor 34 = .ok (.lstore 9, 2) := by decide +kernel
theorem d_Nf_sharedDivisor_36 : decode b_Nf_sharedDivisor 36 = .ok (.lload 6, 2) := by decide +kernel
theorem d_Nf_sharedDivisor_38 : decode b_Nf_sharedDivisor 38 = .ok (.lstore 4, 2) := by decide +kernel
theorem d_Nf_sharedDivisor_40 : decode b_Nf_sharedDivisor 40 = .ok (.lload 9, 2) := by decide +kernel
theorem d_Nf_sharedDivisor_42 : decode b_Nf_sharedDivisor 42 = .ok (.lstore 6, 2) := by decide +kernel
theorem d_Nf_sharedDivisor_44 : decode b_Nf_sharedDivisor 44 = .ok (.iinc 8 1, 3) := by decide +kernel
theorem d_Nf_sharedDivisor_47 : decode b_Nf_sharedDivisor 47 = .ok (.goto (-32), 3) := by decide +kernel
theorem d_Nf_sharedDivisor_50 : decode b_Nf_sharedDivisor 50 = .ok (.lload 4, 2) := by decide +kernel
theorem d_Nf_sharedDivisor_52 : decode b_Nf_sharedDivisor 52 = .ok (.lreturn, 1) := by decide +kernel
def q_Nf_sharedDivisor_L15 (kx50 : Int64 → Mem → Prop) (post : Int64 → Mem → Prop) : Nat → Int64 → Int64 → Int32 → Mem → Prop
  | 0, _, _, _, _ => False
  | n + 1, x4, x6, x8, M => ((100 : Int32) ≤ x8 → kx50 x4 M) ∧ (¬ (100 : Int32) ≤ x8 → (x6 = (0 : Int64) → kx50 x4 M) ∧ (¬ x6 = (0 : Int64) → ¬ x6 = 0 ∧ (q_Nf_sharedDivisor_L15 kx50 post n x6 (x4 - x4 / x6 * x6) (x8 + 1) M)))
set_option maxHeartbeats 4000000 in
theorem s_Nf_sharedDivisor_L15 {γ : Gm} {κ : Kp} {post : Int64 → Mem → Prop} {kx50 : Int64 → Mem → Prop} (C : Cx γ κ "NetForms" b_Nf_sharedDivisor 11 1 (0, 0)) (R : Rt γ (some .long)) (hx50 : ∀ y0 M', kx50 y0 M' → G γ κ 11 (0, 0) (Gq γ κ (pJ post)) 50 [(4, .long y0)] [] M') : ∀ (n : Nat) (x4 : Int64) (x6 : Int64) (x8 : Int32) (M : Mem), q_Nf_sharedDivisor_L15 kx50 post n x4 x6 x8 M → G γ κ 11 (0, 0) (Gq γ κ (pJ post)) 15 [(4, .long x4), (6, .long x6), (8, .int x8)] [] M := by
  intro n
  induction n with
  | zero => intro x4 x6 x8 M hq; exact hq.elim
  | succ n ih =>
    intro x4 x6 x8 M hq
    unfold q_Nf_sharedDivisor_L15 at hq
    refine G_iload C 2 d_Nf_sharedDivisor_15 rfl ?_
    refine G_bipush C (v := 100) d_Nf_sharedDivisor_17 (by decide) ?_
    refine G_icmp_ge C (tgt := 50) d_Nf_sharedDivisor_19 (by decide) (fun c => ?_) (fun c => ?_)
    · replace hq := hq.1 c
      exact G_sub [0] (by rfl) (hx50 _ _ hq)
    · replace hq := hq.2 c
      refine G_lload C 1 d_Nf_sharedDivisor_22 rfl ?_
      refine G_lconst C (v := 0) d_Nf_sharedDivisor_24 (by decide) ?_
      refine G_lcmp_eq C (tgt := 50) (pc1 := 26) d_Nf_sharedDivisor_25 rfl d_Nf_sharedDivisor_26 (by decide) (fun c => ?_) (fun c => ?_)
      · replace hq := hq.1 c
        exact G_sub [0] (by rfl) (hx50 _ _ hq)
      · replace hq := hq.2 c
        refine G_lload C 0 d_Nf_sharedDivisor_29 rfl ?_
        refine G_lload C 1 d_Nf_sharedDivisor_31 rfl ?_
        refine G_lrem C d_Nf_sharedDivisor_33 hq.1 ?_
        replace hq := hq.2
        refine G_lstore C (lv' := [(9, _), (4, _), (6, _), (8, _)]) d_Nf_sharedDivisor_34 (by decide) rfl ?_
        refine G_lload C 2 d_Nf_sharedDivisor_36 rfl ?_
        refine G_lstore C (lv' := [(4, _), (9, _), (6, _), (8, _)]) d_Nf_sharedDivisor_38 (by decide) rfl ?_
        refine G_lload C 1 d_Nf_sharedDivisor_40 rfl ?_
        refine G_lstore C (lv' := [(6, _), (4, _), (9, _), (8, _)]) d_Nf_sharedDivisor_42 (by decide) rfl ?_
        refine G_iinc C (v := _ + 1) (lv' := [(8, _), (6, _), (4, _), (9, _)]) 3 d_Nf_sharedDivisor_44 rfl rfl (by decide) rfl ?_
        refine G_goto C (tgt := 15) d_Nf_sharedDivisor_47 (by decide) ?_
        exact G_sub [2, 1, 0] (by rfl) (ih _ _ _ _ hq)
def q_Nf_sharedDivisor (a0 : Int64) (a2 : Int64) (M : Mem) (post : Int64 → Mem → Prop) : Prop := ∃ n1, q_Nf_sharedDivisor_L15 (fun x2 M3 => post x2 M3) post n1 (if 0 < a0 then a0 else -a0) (if 0 < a2 then a2 else -a2) (0 : Int32) M
set_option maxHeartbeats 4000000 in
theorem s_Nf_sharedDivisor {l : Launch} {κ : Kp} {a0 : Int64} {a2 : Int64} {M : Mem} {post : Int64 → Mem → Prop} (hq : q_Nf_sharedDivisor a0 a2 M post) : Ct l κ y_Nf_sharedDivisor b_Nf_sharedDivisor 11 (some .long) 1 [.long a0, .long a2] M (pJ post) := by
  refine Ct_of (by decide) (Nat.le_of_ble_eq_true rfl) (fun γ hγ C R => ?_)
  subst hγ
  unfold q_Nf_sharedDivisor at hq
  show G γ κ 11 (0, 0) (Gq γ κ (pJ post)) 0 [(0, .long a0), (2, .long a2)] [] M
  refine G_lload_n C 0 d_Nf_sharedDivisor_0 rfl rfl ?_
  refine G_abs C wd_415 (by decide) (Nat.le_of_ble_eq_true rfl) d_Nf_sharedDivisor_1 ?_
  refine G_lstore C (lv' := [(4, _), (0, _), (2, _)]) d_Nf_sharedDivisor_4 (by decide) rfl ?_
  refine G_lload_n C 2 d_Nf_sharedDivisor_6 rfl rfl ?_
  refine G_abs C wd_415 (by decide) (Nat.le_of_ble_eq_true rfl) d_Nf_sharedDivisor_7 ?_
  refine G_lstore C (lv' := [(6, _), (4, _), (0, _), (2, _)]) d_Nf_sharedDivisor_10 (by decide) rfl ?_
  refine G_iconst C (v := 0) d_Nf_sharedDivisor_12 (by decide) ?_
  refine G_istore C (lv' := [(8, _), (6, _), (4, _), (0, _), (2, _)]) d_Nf_sharedDivisor_13 (by decide) rfl ?_
  obtain ⟨n1, hq⟩ := hq
  refine G_sub [2, 1, 0] (by rfl) (s_Nf_sharedDivisor_L15 C R ?_ n1 _ _ _ _ hq)
  · intro x2 M3 hq
    refine G_lload C 0 d_Nf_sharedDivisor_50 rfl ?_
    exact G_lret C R d_Nf_sharedDivisor_52 ⟨_, rfl, hq⟩
