theorem d_Mo_becomes_0 : decode b_Mo_becomes 0 = .ok (.iconst 0, 1) := by decide +kernel
theorem d_Mo_becomes_1 : decode b_Mo_becomes 1 = .ok (.istore_n 3, 1) := by decide +kernel
theorem d_Mo_becomes_2 : decode b_Mo_becomes 2 = .ok (.iload_n 3, 1) := by decide +kernel
theorem d_Mo_becomes_3 : decode b_Mo_becomes 3 = .ok (.aload_n 0, 1) := by decide +kernel
theorem d_Mo_becomes_4 : decode b_Mo_becomes 4 = .ok (.iload_n 2, 1) := by decide +kernel
theorem d_Mo_becomes_5 : decode b_Mo_becomes 5 = .ok (.invokevirtual 107, 3) := by decide +kernel
theorem d_Mo_becomes_8 : decode b_Mo_becomes 8 = .ok (.if_icmp .ge 30, 3) := by decide +kernel
theorem d_Mo_becomes_11 : decode b_Mo_becomes 11 = .ok (.aload_n 0, 1) := by decide +kernel
theorem d_Mo_becomes_12 : decode b_Mo_becomes 12 = .ok (.getfield 49, 3) := by decide +kernel
theorem d_Mo_becomes_15 : decode b_Mo_becomes 15 = .ok (.iload_n 3, 1) := by decide +kernel
theorem d_Mo_becomes_16 : decode b_Mo_becomes 16 = .ok (.laload, 1) := by decide +kernel
theorem d_Mo_becomes_17 : decode b_Mo_becomes 17 = .ok (.ldc2_w 115, 3) := by decide +kernel
theorem d_Mo_becomes_20 : decode b_Mo_becomes 20 = .ok (.ldc2_w 117, 3) := by decide +kernel
theorem d_Mo_becomes_23 : decode b_Mo_becomes 23 = .ok (.invokestatic 75, 3) := by decide +kernel
theorem d_Mo_becomes_26 : decode b_Mo_becomes 26 = .ok (.ifCond .ne 6, 3) := by decide +kernel
theorem d_Mo_becomes_29 : decode b_Mo_becomes 29 = .ok (.bipush (-5), 2) := by decide +kernel
theorem d_Mo_becomes_31 : decode b_Mo_becomes 31 = .ok (.ireturn, 1) := by decide +kernel
theorem d_Mo_becomes_32 : decode b_Mo_becomes 32 = .ok (.iinc 3 1, 3) := by decide +kernel
theorem d_Mo_becomes_35 : decode b_Mo_becomes 35 = .ok (.goto (-33), 3) := by decide +kernel
theorem d_Mo_becomes_38 : decode b_Mo_becomes 38 = .ok (.aload_n 0, 1) := by decide +kernel
theorem d_Mo_becomes_39 : decode b_Mo_becomes 39 = .ok (.iload_n 1, 1) := by decide +kernel
theorem d_Mo_becomes_40 : decode b_Mo_becomes 40 = .ok (.iload_n 2, 1) := by decide +kernel
theorem d_Mo_becomes_41 : decode b_Mo_becomes 41 = .ok (.invokevirtual 88, 3) := by decide +kernel
theorem d_Mo_becomes_44 : decode b_Mo_becomes 44 = .ok (.iconst 0, 1) := by decide +kernel
theorem d_Mo_becomes_45 : decode b_Mo_becomes 45 = .ok (.istore_n 3, 1) := by decide +kernel
theorem d_Mo_becomes_46 : decode b_Mo_becomes 46 = .ok (.iload_n 3, 1) := by decide +kernel
theorem d_Mo_becomes_47 : decode b_Mo_becomes 47 = .ok (.aload_n 0, 1) := by decide +kernel
theorem d_Mo_becomes_48 : decode b_Mo_becomes 48 = .ok (.iload_n 2, 1) := by decide +kernel
theorem d_Mo_becomes_49 : decode b_Mo_becomes 49 = .ok (.invokevirtual 107, 3) := by decide +kernel
theorem d_Mo_becomes_52 : decode b_Mo_becomes 52 = .ok (.if_icmp .ge 27, 3) := by decide +kernel
theorem d_Mo_becomes_55 : decode b_Mo_becomes 55 = .ok (.aload_n 0, 1) := by decide +kernel
theorem d_Mo_becomes_56 : decode b_Mo_becomes 56 = .ok (.getfield 32, 3) := by decide +kernel
theorem d_Mo_becomes_59 : decode b_Mo_becomes 59 = .ok (.bipush 12, 2) := by decide +kernel
theorem d_Mo_becomes_61 : decode b_Mo_becomes 61 = .ok (.iload_n 1, 1) := by decide +kernel
theorem d_Mo_becomes_62 : decode b_Mo_becomes 62 = .ok (.imul, 1) := by decide +kernel
theorem d_Mo_becomes_63 : decode b_Mo_becomes 63 = .ok (.iload_n 3, 1) := by decide +kernel
theorem d_Mo_becomes_64 : decode b_Mo_becomes 64 = .ok (.iadd, 1) := by decide +kernel
theorem d_Mo_becomes_65 : decode b_Mo_becomes 65 = .ok (.aload_n 0, 1) := by decide +kernel
theorem d_Mo_becomes_66 : decode b_Mo_becomes 66 = .ok (.getfield 49, 3) := by decide +kernel
theorem d_Mo_becomes_69 : decode b_Mo_becomes 69 = .ok (.iload_n 3, 1) := by decide +kernel
theorem d_Mo_becomes_70 : decode b_Mo_becomes 70 = .ok (.laload, 1) := by decide +kernel
theorem d_Mo_becomes_71 : decode b_Mo_becomes 71 = .ok (.l2i, 1) := by decide +kernel
theorem d_Mo_becomes_72 : decode b_Mo_becomes 72 = .ok (.iastore, 1) := by decide +kernel
theorem d_Mo_becomes_73 : decode b_Mo_becomes 73 = .ok (.iinc 3 1, 3) := by decide +kernel
theorem d_Mo_becomes_76 : decode b_Mo_becomes 76 = .ok (.goto (-30), 3) := by decide +kernel
theorem d_Mo_becomes_79 : decode b_Mo_becomes 79 = .ok (.iload_n 2, 1) := by decide +kernel
theorem d_Mo_becomes_80 : decode b_Mo_becomes 80 = .ok (.ireturn, 1) := by decide +kernel
def q_Mo_becomes_L2 (kx29 : Mem → Prop) (kx38 : Int32 → Int32 → Mem → Prop) (post : Int32 → Mem → Prop) : Nat → Int32 → Int32 → Int32 → Mem → Prop
  | 0, _, _, _, _ => False
  | n + 1, x1, x2, x3, M => q_Mo_size x2 M (fun r2 M1 => (r2 ≤ x3 → kx38 x1 x2 M1) ∧ (¬ r2 ≤ x3 → vp_in x3 12 ∧ (q_Mo_in (M1.2 68 x3.toNatClampNeg) (-1000000 : Int64) (1000000 : Int64) M1 (fun r4 M3 => (¬ r4 = 0 → q_Mo_becomes_L2 kx29 kx38 post n x1 x2 (x3 + 1) M3) ∧ (r4 = 0 → kx29 M3)))))
set_option maxHeartbeats 4000000 in
theorem s_Mo_becomes_L2 {γ : Gm} {κ : Kp} {post : Int32 → Mem → Prop} {kx29 : Mem → Prop} {kx38 : Int32 → Int32 → Mem → Prop} (C : Cx γ κ "NetFormsModel" b_Mo_becomes 4 1 (0, 0)) (R : Rt γ (some .int)) (hx29 : ∀ M', kx29 M' → G γ κ 4 (0, 0) (Gq γ κ (pI post)) 29 [] [] M') (hx38 : ∀ y1 y2 M', kx38 y1 y2 M' → G γ κ 4 (0, 0) (Gq γ κ (pI post)) 38 [(0, .ref (κ.1 + 56)), (1, .int y1), (2, .int y2)] [] M') : ∀ (n : Nat) (x1 : Int32) (x2 : Int32) (x3 : Int32) (M : Mem), q_Mo_becomes_L2 kx29 kx38 post n x1 x2 x3 M → G γ κ 4 (0, 0) (Gq γ κ (pI post)) 2 [(0, .ref (κ.1 + 56)), (1, .int x1), (2, .int x2), (3, .int x3)] [] M := by
  intro n
  induction n with
  | zero => intro x1 x2 x3 M hq; exact hq.elim
  | succ n ih =>
    intro x1 x2 x3 M hq
    unfold q_Mo_becomes_L2 at hq
    refine G_iload_n C 3 d_Mo_becomes_2 rfl rfl ?_
    refine G_aload_n C 0 d_Mo_becomes_3 rfl rfl ?_
    refine G_iload_n C 2 d_Mo_becomes_4 rfl rfl ?_
    refine G_callV C (s_Mo_size hq) v_Mo_size i_Mo_size z_Mo_size wd_649 (by decide) rfl (k := 56) (ci := 7) (by decide) rfl rfl rfl (rest := [_]) (by rfl) (Nat.le_of_ble_eq_true rfl) d_Mo_becomes_5 (ki_ (fun r2 M1 hq => ?_))
    refine G_icmp_ge C (tgt := 38) d_Mo_becomes_8 (by decide) (fun c => ?_) (fun c => ?_)
    · replace hq := hq.1 c
      exact G_sub [0, 1, 2] (by rfl) (hx38 _ _ _ hq)
    · replace hq := hq.2 c
      refine G_aload_n C 0 d_Mo_becomes_11 rfl rfl ?_
      refine Gg_Mo_made C wd_536 d_Mo_becomes_12 ?_
      refine G_iload_n C 3 d_Mo_becomes_15 rfl rfl ?_
      refine G_laload C (k := 68) (by decide) (fun _ _ => rfl) hq.1 d_Mo_becomes_16 ?_
      replace hq := hq.2
      refine G_ldc2 C (v := -1000000) wd_653 d_Mo_becomes_17 ?_
      refine G_ldc2 C (v := 1000000) wd_654 d_Mo_becomes_20 ?_
      refine G_callS C (s_Mo_in hq) v_Mo_in z_Mo_in wd_605 (by decide) rfl (rest := []) (by rfl) (Nat.le_of_ble_eq_true rfl) d_Mo_becomes_23 (ki_ (fun r4 M3 hq => ?_))
      refine G_if_ne C (tgt := 32) d_Mo_becomes_26 (by decide) (fun c => ?_) (fun c => ?_)
      · replace hq := hq.1 c
        refine G_iinc C (v := _ + 1) (lv' := [(3, _), (0, _), (1, _), (2, _)]) 3 d_Mo_becomes_32 rfl rfl (by decide) rfl ?_
        refine G_goto C (tgt := 2) d_Mo_becomes_35 (by decide) ?_
        exact G_sub [1, 2, 3, 0] (by rfl) (ih _ _ _ _ hq)
      · replace hq := hq.2 c
        exact G_sub [] (by rfl) (hx29 _ hq)
def q_Mo_becomes_L46 (kx79 : Int32 → Mem → Prop) (post : Int32 → Mem → Prop) : Nat → Int32 → Int32 → Int32 → Mem → Prop
  | 0, _, _, _, _ => False
  | n + 1, x1, x2, x3, M => q_Mo_size x2 M (fun r12 M11 => (r12 ≤ x3 → kx79 x2 M11) ∧ (¬ r12 ≤ x3 → vp_in x3 12 ∧ (vp_in (((12 : Int32) * x1) + x3) 144 ∧ (∀ M13, M13 = wI M11 63 (((12 : Int32) * x1) + x3).toNatClampNeg ((M11.2 68 x3.toNatClampNeg).toInt32) → q_Mo_becomes_L46 kx79 post n x1 x2 (x3 + 1) M13))))
set_option maxHeartbeats 4000000 in
theorem s_Mo_becomes_L46 {γ : Gm} {κ : Kp} {post : Int32 → Mem → Prop} {kx79 : Int32 → Mem → Prop} (C : Cx γ κ "NetFormsModel" b_Mo_becomes 4 1 (0, 0)) (R : Rt γ (some .int)) (hx79 : ∀ y0 M', kx79 y0 M' → G γ κ 4 (0, 0) (Gq γ κ (pI post)) 79 [(2, .int y0)] [] M') : ∀ (n : Nat) (x1 : Int32) (x2 : Int32) (x3 : Int32) (M : Mem), q_Mo_becomes_L46 kx79 post n x1 x2 x3 M → G γ κ 4 (0, 0) (Gq γ κ (pI post)) 46 [(0, .ref (κ.1 + 56)), (1, .int x1), (2, .int x2), (3, .int x3)] [] M := by
  intro n
  induction n with
  | zero => intro x1 x2 x3 M hq; exact hq.elim
  | succ n ih =>
    intro x1 x2 x3 M hq
    unfold q_Mo_becomes_L46 at hq
    refine G_iload_n C 3 d_Mo_becomes_46 rfl rfl ?_
    refine G_aload_n C 0 d_Mo_becomes_47 rfl rfl ?_
    refine G_iload_n C 2 d_Mo_becomes_48 rfl rfl ?_
    refine G_callV C (s_Mo_size hq) v_Mo_size i_Mo_size z_Mo_size wd_649 (by decide) rfl (k := 56) (ci := 7) (by decide) rfl rfl rfl (rest := [_]) (by rfl) (Nat.le_of_ble_eq_true rfl) d_Mo_becomes_49 (ki_ (fun r12 M11 hq => ?_))
    refine G_icmp_ge C (tgt := 79) d_Mo_becomes_52 (by decide) (fun c => ?_) (fun c => ?_)
    · replace hq := hq.1 c
      exact G_sub [2] (by rfl) (hx79 _ _ hq)
    · replace hq := hq.2 c
      refine G_aload_n C 0 d_Mo_becomes_55 rfl rfl ?_
      refine Gg_Mo_number C wd_530 d_Mo_becomes_56 ?_
      refine G_bipush C (v := 12) d_Mo_becomes_59 (by decide) ?_
      refine G_iload_n C 1 d_Mo_becomes_61 rfl rfl ?_
      refine G_imul C d_Mo_becomes_62 ?_
      refine G_iload_n C 3 d_Mo_becomes_63 rfl rfl ?_
      refine G_iadd C d_Mo_becomes_64 ?_
      refine G_aload_n C 0 d_Mo_becomes_65 rfl rfl ?_
      refine Gg_Mo_made C wd_536 d_Mo_becomes_66 ?_
      refine G_iload_n C 3 d_Mo_becomes_69 rfl rfl ?_
      refine G_laload C (k := 68) (by decide) (fun _ _ => rfl) hq.1 d_Mo_becomes_70 ?_
      replace hq := hq.2
      refine G_l2i C d_Mo_becomes_71 ?_
      refine G_iastore C (k := 63) (by decide) (fun _ _ => rfl) hq.1 d_Mo_becomes_72 ?_
      replace hq := hq.2 _ rfl
      refine G_iinc C (v := _ + 1) (lv' := [(3, _), (0, _), (1, _), (2, _)]) 3 d_Mo_becomes_73 rfl rfl (by decide) rfl ?_
      refine G_goto C (tgt := 46) d_Mo_becomes_76 (by decide) ?_
      exact G_sub [1, 2, 3, 0] (by rfl) (ih _ _ _ _ hq)
def q_Mo_becomes (a1 : Int32) (a2 : Int32) (M : Mem) (post : Int32 → Mem → Prop) : Prop := ∃ n5, q_Mo_becomes_L2 (fun M6 => post (-5 : Int32) M6) (fun x7 x8 M9 => q_Mo_clears x7 x8 M9 (fun M10 => ∃ n14, q_Mo_becomes_L46 (fun x15 M16 => post x15 M16) post n14 x7 x8 (0 : Int32) M10)) post n5 a1 a2 (0 : Int32) M
set_option maxHeartbeats 4000000 in
theorem s_Mo_becomes {l : Launch} {κ : Kp} {a1 : Int32} {a2 : Int32} {M : Mem} {post : Int32 → Mem → Prop} (hq : q_Mo_becomes a1 a2 M post) : Ct l κ y_Mo_becomes b_Mo_becomes 4 (some .int) 1 [.ref (κ.1 + 56), .int a1, .int a2] M (pI post) := by
  refine Ct_of (by decide) (Nat.le_of_ble_eq_true rfl) (fun γ hγ C R => ?_)
  subst hγ
  unfold q_Mo_becomes at hq
  show G γ κ 4 (0, 0) (Gq γ κ (pI post)) 0 [(0, .ref (κ.1 + 56)), (1, .int a1), (2, .int a2)] [] M
  refine G_iconst C (v := 0) d_Mo_becomes_0 (by decide) ?_
  refine G_istore_n C (lv' := [(3, _), (0, _), (1, _), (2, _)]) d_Mo_becomes_1 rfl (by decide) rfl ?_
  obtain ⟨n5, hq⟩ := hq
  refine G_sub [1, 2, 3, 0] (by rfl) (s_Mo_becomes_L2 C R ?_ ?_ n5 _ _ _ _ hq)
  · intro M6 hq
    refine G_bipush C (v := -5) d_Mo_becomes_29 (by decide) ?_
    exact G_iret C R d_Mo_becomes_31 ⟨_, rfl, hq⟩
  · intro x7 x8 M9 hq
    refine G_aload_n C 0 d_Mo_becomes_38 rfl rfl ?_
    refine G_iload_n C 1 d_Mo_becomes_39 rfl rfl ?_
    refine G_iload_n C 2 d_Mo_becomes_40 rfl rfl ?_
    refine G_callV C (s_Mo_clears hq) v_Mo_clears i_Mo_clears z_Mo_clears wd_608 (by decide) rfl (k := 56) (ci := 7) (by decide) rfl rfl rfl (rest := []) (by rfl) (Nat.le_of_ble_eq_true rfl) d_Mo_becomes_41 (kv_ (fun M10 hq => ?_))
    refine G_iconst C (v := 0) d_Mo_becomes_44 (by decide) ?_
    refine G_istore_n C (lv' := [(3, _), (0, _), (1, _), (2, _)]) d_Mo_becomes_45 rfl (by decide) rfl ?_
    obtain ⟨n14, hq⟩ := hq
    refine G_sub [1, 2, 3, 0] (by rfl) (s_Mo_becomes_L46 C R ?_ n14 _ _ _ _ hq)
    · intro x15 M16 hq
      refine G_iload_n C 0 d_Mo_becomes_79 rfl rfl ?_
      exact G_iret C R d_Mo_becomes_80 ⟨_, rfl, hq⟩
theorem d_Mo_makeRim_0 : decode b_Mo_makeRim 0 = .ok (.iconst 0, 1) := by decide +kernel
theorem d_Mo_makeRim_1 : decode b_Mo_makeRim 1 = .ok (.istore_n 2, 1) := by decide +kernel
theorem d_Mo_makeRim_2 : decode b_Mo_makeRim 2 = .ok (.iload_n 2, 1) := by decide +kernel
theorem d_Mo_makeRim_3 : decode b_Mo_makeRim 3 = .ok (.bipush 12, 2) := by decide +kernel
theorem d_Mo_makeRim_5 : decode b_Mo_makeRim 5 = .ok (.if_icmp .ge 16, 3) := by decide +kernel
theorem d_Mo_makeRim_8 : decode b_Mo_makeRim 8 = .ok (.aload_n 0, 1) := by decide +kernel
theorem d_Mo_makeRim_9 : decode b_Mo_makeRim 9 = .ok (.getfield 49, 3) := by decide +kernel
theorem d_Mo_makeRim_12 : decode b_Mo_makeRim 12 = .ok (.iload_n 2, 1) := by decide +kernel
theorem d_Mo_makeRim_13 : decode b_Mo_makeRim 13 = .ok (.lconst 0, 1) := by decide +kernel
theorem d_Mo_makeRim_14 : decode b_Mo_makeRim 14 = .ok (.lastore, 1) := by decide +kernel
theorem d_Mo_makeRim_15 : decode b_Mo_makeRim 15 = .ok (.iinc 2 1, 3) := by decide +kernel
theorem d_Mo_makeRim_18 : decode b_Mo_makeRim 18 = .ok (.goto (-16), 3) := by decide +kernel
theorem d_Mo_makeRim_21 : decode b_Mo_makeRim 21 = .ok (.iconst 0, 1) := by decide +kernel
theorem d_Mo_makeRim_22 : decode b_Mo_makeRim 22 = .ok (.istore_n 2, 1) := by decide +kernel
theorem d_Mo_makeRim_23 : decode b_Mo_makeRim 23 = .ok (.iload_n 2, 1) := by decide +kernel
theorem d_Mo_makeRim_24 : decode b_Mo_makeRim 24 = .ok (.aload_n 0, 1) := by decide +kernel
theorem d_Mo_makeRim_25 : decode b_Mo_makeRim 25 = .ok (.getfield 79, 3) := by decide +kernel
theorem d_Mo_makeRim_28 : decode b_Mo_makeRim 28 = .ok (.if_icmp .ge 59, 3) := by decide +kernel
theorem d_Mo_makeRim_31 : decode b_Mo_makeRim 31 = .ok (.aload_n 0, 1) := by decide +kernel
theorem d_Mo_makeRim_32 : decode b_Mo_makeRim 32 = .ok (.getfield 29, 3) := by decide +kernel
theorem d_Mo_makeRim_35 : decode b_Mo_makeRim 35 = .ok (.iload_n 1, 1) := by decide +kernel
theorem d_Mo_makeRim_36 : decode b_Mo_makeRim 36 = .ok (.iaload, 1) := by decide +kernel
theorem d_Mo_makeRim_37 : decode b_Mo_makeRim 37 = .ok (.iconst 1, 1) := by decide +kernel
theorem d_Mo_makeRim_38 : decode b_Mo_makeRim 38 = .ok (.if_icmp .ne 49, 3) := by decide +kernel
theorem d_Mo_makeRim_41 : decode b_Mo_makeRim 41 = .ok (.aload_n 0, 1) := by decide +kernel
theorem d_Mo_makeRim_42 : decode b_Mo_makeRim 42 = .ok (.getfield 49, 3) := by decide +kernel
theorem d_Mo_makeRim_45 : decode b_Mo_makeRim 45 = .ok (.aload_n 0, 1) := by decide +kernel
theorem d_Mo_makeRim_46 : decode b_Mo_makeRim 46 = .ok (.getfield 17, 3) := by decide +kernel
theorem d_Mo_makeRim_49 : decode b_Mo_makeRim 49 = .ok (.iload_n 2, 1) := by decide +kernel
theorem d_Mo_makeRim_50 : decode b_Mo_makeRim 50 = .ok (.iaload, 1) := by decide +kernel
theorem d_Mo_makeRim_51 : decode b_Mo_makeRim 51 = .ok (.dup2, 1) := by decide +kernel
theorem d_Mo_makeRim_52 : decode b_Mo_makeRim 52 = .ok (.laload, 1) := by decide +kernel
theorem d_Mo_makeRim_53 : decode b_Mo_makeRim 53 = .ok (.aload_n 0, 1) := by decide +kernel
theorem d_Mo_makeRim_54 : decode b_Mo_makeRim 54 = .ok (.iload_n 1, 1) := by decide +kernel
theorem d_Mo_makeRim_55 : decode b_Mo_makeRim 55 = .ok (.iload_n 2, 1) := by decide +kernel
theorem d_Mo_makeRim_56 : decode b_Mo_makeRim 56 = .ok (.invokevirtual 120, 3) := by decide +kernel
theorem d_Mo_makeRim_59 : decode b_Mo_makeRim 59 = .ok (.ladd, 1) := by decide +kernel
theorem d_Mo_makeRim_60 : decode b_Mo_makeRim 60 = .ok (.lastore, 1) := by decide +kernel
theorem d_Mo_makeRim_61 : decode b_Mo_makeRim 61 = .ok (.aload_n 0, 1) := by decide +kernel
theorem d_Mo_makeRim_62 : decode b_Mo_makeRim 62 = .ok (.getfield 49, 3) := by decide +kernel
theorem d_Mo_makeRim_65 : decode b_Mo_makeRim 65 = .ok (.aload_n 0, 1) := by decide +kernel
theorem d_Mo_makeRim_66 : decode b_Mo_makeRim 66 = .ok (.getfield 13, 3) := by decide +kernel
theorem d_Mo_makeRim_69 : decode b_Mo_makeRim 69 = .ok (.iload_n 2, 1) := by decide +kernel
theorem d_Mo_makeRim_70 : decode b_Mo_makeRim 70 = .ok (.iaload, 1) := by decide +kernel
theorem d_Mo_makeRim_71 : decode b_Mo_makeRim 71 = .ok (.dup2, 1) := by decide +kernel
theorem d_Mo_makeRim_72 : decode b_Mo_makeRim 72 = .ok (.laload, 1) := by decide +kernel
theorem d_Mo_makeRim_73 : decode b_Mo_makeRim 73 = .ok (.aload_n 0, 1) := by decide +kernel
theorem d_Mo_makeRim_74 : decode b_Mo_makeRim 74 = .ok (.iload_n 1, 1) := by decide +kernel
theorem d_Mo_makeRim_75 : decode b_Mo_makeRim 75 = .ok (.iload_n 2, 1) := by decide +kernel
theorem d_Mo_makeRim_76 : decode b_Mo_makeRim 76 = .ok (.invokevirtual 120, 3) := by decide +kernel
theorem d_Mo_makeRim_79 : decode b_Mo_makeRim 79 = .ok (.lsub, 1) := by decide +kernel
theorem d_Mo_makeRim_80 : decode b_Mo_makeRim 80 = .ok (.lastore, 1) := by decide +kernel
theorem d_Mo_makeRim_81 : decode b_Mo_makeRim 81 = .ok (.iinc 2 1, 3) := by decide +kernel
theorem d_Mo_makeRim_84 : decode b_Mo_makeRim 84 = .ok (.goto (-61), 3) := by decide +kernel
theorem d_Mo_makeRim_87 : decode b_Mo_makeRim 87 = .ok (.iconst 0, 1) := by decide +kernel
theorem d_Mo_makeRim_88 : decode b_Mo_makeRim 88 = .ok (.istore_n 2, 1) := by decide +kernel
theorem d_Mo_makeRim_89 : decode b_Mo_makeRim 89 = .ok (.iload_n 2, 1) := by decide +kernel
theorem d_Mo_makeRim_90 : decode b_Mo_makeRim 90 = .ok (.aload_n 0, 1) := by decide +kernel
theorem d_Mo_makeRim_91 : decode b_Mo_makeRim 91 = .ok (.getfield 82, 3) := by decide +kernel
theorem d_Mo_makeRim_94 : decode b_Mo_makeRim 94 = .ok (.if_icmp .ge 109, 3) := by decide +kernel
theorem d_Mo_makeRim_97 : decode b_Mo_makeRim 97 = .ok (.aload_n 0, 1) := by decide +kernel
theorem d_Mo_makeRim_98 : decode b_Mo_makeRim 98 = .ok (.getfield 29, 3) := by decide +kernel
theorem d_Mo_makeRim_101 : decode b_Mo_makeRim 101 = .ok (.iload_n 1, 1) := by decide +kernel
theorem d_Mo_makeRim_102 : decode b_Mo_makeRim 102 = .ok (.iaload, 1) := by decide +kernel
theorem d_Mo_makeRim_103 : decode b_Mo_makeRim 103 = .ok (.iconst 2, 1) := by decide +kernel
theorem d_Mo_makeRim_104 : decode b_Mo_makeRim 104 = .ok (.if_icmp .ne 99, 3) := by decide +kernel
theorem d_Mo_makeRim_107 : decode b_Mo_makeRim 107 = .ok (.aload_n 0, 1) := by decide +kernel
theorem d_Mo_makeRim_108 : decode b_Mo_makeRim 108 = .ok (.getfield 49, 3) := by decide +kernel
theorem d_Mo_makeRim_111 : decode b_Mo_makeRim 111 = .ok (.aload_n 0, 1) := by decide +kernel
theorem d_Mo_makeRim_112 : decode b_Mo_makeRim 112 = .ok (.aload_n 0, 1) := by decide +kernel
theorem d_Mo_makeRim_113 : decode b_Mo_makeRim 113 = .ok (.getfield 20, 3) := by decide +kernel
theorem d_Mo_makeRim_116 : decode b_Mo_makeRim 116 = .ok (.iload_n 2, 1) := by decide +kernel
theorem d_Mo_makeRim_117 : decode b_Mo_makeRim 117 = .ok (.iaload, 1) := by decide +kernel
theorem d_Mo_makeRim_118 : decode b_Mo_makeRim 118 = .ok (.aload_n 0, 1) := by decide +kernel
theorem d_Mo_makeRim_119 : decode b_Mo_makeRim 119 = .ok (.getfield 23, 3) := by decide +kernel
theorem d_Mo_makeRim_122 : decode b_Mo_makeRim 122 = .ok (.iload_n 2, 1) := by decide +kernel
theorem d_Mo_makeRim_123 : decode b_Mo_makeRim 123 = .ok (.iaload, 1) := by decide +kernel
theorem d_Mo_makeRim_124 : decode b_Mo_makeRim 124 = .ok (.invokevirtual 96, 3) := by decide +kernel
theorem d_Mo_makeRim_127 : decode b_Mo_makeRim 127 = .ok (.dup2, 1) := by decide +kernel
theorem d_Mo_makeRim_128 : decode b_Mo_makeRim 128 = .ok (.laload, 1) := by decide +kernel
theorem d_Mo_makeRim_129 : decode b_Mo_makeRim 129 = .ok (.aload_n 0, 1) := by decide +kernel
theorem d_Mo_makeRim_130 : decode b_Mo_makeRim 130 = .ok (.iload_n 1, 1) := by decide +kernel
theorem d_Mo_makeRim_131 : decode b_Mo_makeRim 131 = .ok (.iload_n 2, 1) := by decide +kernel
theorem d_Mo_makeRim_132 : decode b_Mo_makeRim 132 = .ok (.invokevirtual 120, 3) := by decide +kernel
theorem d_Mo_makeRim_135 : decode b_Mo_makeRim 135 = .ok (.ladd, 1) := by decide +kernel
theorem d_Mo_makeRim_136 : decode b_Mo_makeRim 136 = .ok (.lastore, 1) := by decide +kernel
theorem d_Mo_makeRim_137 : decode b_Mo_makeRim 137 = .ok (.aload_n 0, 1) := by decide +kernel
theorem d_Mo_makeRim_138 : decode b_Mo_makeRim 138 = .ok (.getfield 49, 3) := by decide +kernel
theorem d_Mo_makeRim_141 : decode b_Mo_makeRim 141 = .ok (.aload_n 0, 1) := by decide +kernel
theorem d_Mo_makeRim_142 : decode b_Mo_makeRim 142 = .ok (.aload_n 0, 1) := by decide +kernel
theorem d_Mo_makeRim_143 : decode b_Mo_makeRim 143 = .ok (.getfield 23, 3) := by decide +kernel
theorem d_Mo_makeRim_146 : decode b_Mo_makeRim 146 = .ok (.iload_n 2, 1) := by decide +kernel
theorem d_Mo_makeRim_147 : decode b_Mo_makeRim 147 = .ok (.iaload, 1) := by decide +kernel
theorem d_Mo_makeRim_148 : decode b_Mo_makeRim 148 = .ok (.aload_n 0, 1) := by decide +kernel
theorem d_Mo_makeRim_149 : decode b_Mo_makeRim 149 = .ok (.getfield 26, 3) := by decide +kernel
theorem d_Mo_makeRim_152 : decode b_Mo_makeRim 152 = .ok (.iload_n 2, 1) := by decide +kernel
theorem d_Mo_makeRim_153 : decode b_Mo_makeRim 153 = .ok (.iaload, 1) := by decide +kernel
theorem d_Mo_makeRim_154 : decode b_Mo_makeRim 154 = .ok (.invokevirtual 96, 3) := by decide +kernel
theorem d_Mo_makeRim_157 : decode b_Mo_makeRim 157 = .ok (.dup2, 1) := by decide +kernel
theorem d_Mo_makeRim_158 : decode b_Mo_makeRim 158 = .ok (.laload, 1) := by decide +kernel
theorem d_Mo_makeRim_159 : decode b_Mo_makeRim 159 = .ok (.aload_n 0, 1) := by decide +kernel
theorem d_Mo_makeRim_160 : decode b_Mo_makeRim 160 = .ok (.iload_n 1, 1) := by decide +kernel
theorem d_Mo_makeRim_161 : decode b_Mo_makeRim 161 = .ok (.iload_n 2, 1) := by decide +kernel
theorem d_Mo_makeRim_162 : decode b_Mo_makeRim 162 = .ok (.invokevirtual 120, 3) := by decide +kernel
theorem d_Mo_makeRim_165 : decode b_Mo_makeRim 165 = .ok (.ladd, 1) := by decide +kernel
theorem d_Mo_makeRim_166 : decode b_Mo_makeRim 166 = .ok (.lastore, 1) := by decide +kernel
theorem d_Mo_makeRim_167 : decode b_Mo_makeRim 167 = .ok (.aload_n 0, 1) := by decide +kernel
theorem d_Mo_makeRim_168 : decode b_Mo_makeRim 168 = .ok (.getfield 49, 3) := by decide +kernel
theorem d_Mo_makeRim_171 : decode b_Mo_makeRim 171 = .ok (.aload_n 0, 1) := by decide +kernel
theorem d_Mo_makeRim_172 : decode b_Mo_makeRim 172 = .ok (.aload_n 0, 1) := by decide +kernel
theorem d_Mo_makeRim_173 : decode b_Mo_makeRim 173 = .ok (.getfield 20, 3) := by decide +kernel
theorem d_Mo_makeRim_176 : decode b_Mo_makeRim 176 = .ok (.iload_n 2, 1) := by decide +kernel
theorem d_Mo_makeRim_177 : decode b_Mo_makeRim 177 = .ok (.iaload, 1) := by decide +kernel
theorem d_Mo_makeRim_178 : decode b_Mo_makeRim 178 = .ok (.aload_n 0, 1) := by decide +kernel
theorem d_Mo_makeRim_179 : decode b_Mo_makeRim 179 = .ok (.getfield 26, 3) := by decide +kernel
theorem d_Mo_makeRim_182 : decode b_Mo_makeRim 182 = .ok (.iload_n 2, 1) := by decide +kernel
theorem d_Mo_makeRim_183 : decode b_Mo_makeRim 183 = .ok (.iaload, 1) := by decide +kernel
theorem d_Mo_makeRim_184 : decode b_Mo_makeRim 184 = .ok (.invokevirtual 96, 3) := by decide +kernel
theorem d_Mo_makeRim_187 : decode b_Mo_makeRim 187 = .ok (.dup2, 1) := by decide +kernel
theorem d_Mo_makeRim_188 : decode b_Mo_makeRim 188 = .ok (.laload, 1) := by decide +kernel
theorem d_Mo_makeRim_189 : decode b_Mo_makeRim 189 = .ok (.aload_n 0, 1) := by decide +kernel
theorem d_Mo_makeRim_190 : decode b_Mo_makeRim 190 = .ok (.iload_n 1, 1) := by decide +kernel
theorem d_Mo_makeRim_191 : decode b_Mo_makeRim 191 = .ok (.iload_n 2, 1) := by decide +kernel
theorem d_Mo_makeRim_192 : decode b_Mo_makeRim 192 = .ok (.invokevirtual 120, 3) := by decide +kernel
theorem d_Mo_makeRim_195 : decode b_Mo_makeRim 195 = .ok (.lsub, 1) := by decide +kernel
theorem d_Mo_makeRim_196 : decode b_Mo_makeRim 196 = .ok (.lastore, 1) := by decide +kernel
theorem d_Mo_makeRim_197 : decode b_Mo_makeRim 197 = .ok (.iinc 2 1, 3) := by decide +kernel
theorem d_Mo_makeRim_200 : decode b_Mo_makeRim 200 = .ok (.goto (-111), 3) := by decide +kernel
theorem d_Mo_makeRim_203 : decode b_Mo_makeRim 203 = .ok (.return_, 1) := by decide +kernel
def q_Mo_makeRim_L2 (kx21 : Int32 → Mem → Prop) (post : Mem → Prop) : Nat → Int32 → Int32 → Mem → Prop
  | 0, _, _, _ => False
  | n + 1, x1, x2, M => ((12 : Int32) ≤ x2 → kx21 x1 M) ∧ (¬ (12 : Int32) ≤ x2 → vp_in x2 12 ∧ (∀ M1, M1 = wJ M 68 x2.toNatClampNeg (0 : Int64) → q_Mo_makeRim_L2 kx21 post n x1 (x2 + 1) M1))
set_option maxHeartbeats 4000000 in
theorem s_Mo_makeRim_L2 {γ : Gm} {κ : Kp} {post : Mem → Prop} {kx21 : Int32 → Mem → Prop} (C : Cx γ κ "NetFormsModel" b_Mo_makeRim 3 1 (0, 0)) (R : Rt γ (none)) (hx21 : ∀ y1 M', kx21 y1 M' → G γ κ 3 (0, 0) (Gq γ κ (pV post)) 21 [(0, .ref (κ.1 + 56)), (1, .int y1)] [] M') : ∀ (n : Nat) (x1 : Int32) (x2 : Int32) (M : Mem), q_Mo_makeRim_L2 kx21 post n x1 x2 M → G γ κ 3 (0, 0) (Gq γ κ (pV post)) 2 [(0, .ref (κ.1 + 56)), (1, .int x1), (2, .int x2)] [] M := by
  intro n
  induction n with
  | zero => intro x1 x2 M hq; exact hq.elim
  | succ n ih =>
    intro x1 x2 M hq
    unfold q_Mo_makeRim_L2 at hq
    refine G_iload_n C 2 d_Mo_makeRim_2 rfl rfl ?_
    refine G_bipush C (v := 12) d_Mo_makeRim_3 (by decide) ?_
    refine G_icmp_ge C (tgt := 21) d_Mo_makeRim_5 (by decide) (fun c => ?_) (fun c => ?_)
    · replace hq := hq.1 c
      exact G_sub [0, 1] (by rfl) (hx21 _ _ hq)
    · replace hq := hq.2 c
      refine G_aload_n C 0 d_Mo_makeRim_8 rfl rfl ?_
      refine Gg_Mo_made C wd_536 d_Mo_makeRim_9 ?_
      refine G_iload_n C 2 d_Mo_makeRim_12 rfl rfl ?_
      refine G_lconst C (v := 0) d_Mo_makeRim_13 (by decide) ?_
      refine G_lastore C (k := 68) (by decide) (fun _ _ => rfl) hq.1 d_Mo_makeRim_14 ?_
      replace hq := hq.2 _ rfl
      refine G_iinc C (v := _ + 1) (lv' := [(2, _), (0, _), (1, _)]) 2 d_Mo_makeRim_15 rfl rfl (by decide) rfl ?_
      refine G_goto C (tgt := 2) d_Mo_makeRim_18 (by decide) ?_
      exact G_sub [1, 2, 0] (by rfl) (ih _ _ _ hq)
def q_Mo_makeRim_L23 (kx87 : Int32 → Mem → Prop) (post : Mem → Prop) : Nat → Int32 → Int32 → Mem → Prop
  | 0, _, _, _ => False
  | n + 1, x1, x2, M => ((M.1 56 1) ≤ x2 → kx87 x1 M) ∧ (¬ (M.1 56 1) ≤ x2 → vp_in x1 12 ∧ ((¬ (M.1 62 x1.toNatClampNeg) = (1 : Int32) → kx87 x1 M) ∧ ((M.1 62 x1.toNatClampNeg) = (1 : Int32) → vp_in x2 12 ∧ (vp_in (M.1 58 x2.toNatClampNeg) 12 ∧ (q_Mo_at x1 x2 M (fun r6 M5 => vp_in (M.1 58 x2.toNatClampNeg) 12 ∧ (∀ M7, M7 = wJ M5 68 (M.1 58 x2.toNatClampNeg).toNatClampNeg ((M.2 68 (M.1 58 x2.toNatClampNeg).toNatClampNeg) + r6) → vp_in x2 12 ∧ (vp_in (M7.1 57 x2.toNatClampNeg) 12 ∧ (q_Mo_at x1 x2 M7 (fun r9 M8 => vp_in (M7.1 57 x2.toNatClampNeg) 12 ∧ (∀ M10, M10 = wJ M8 68 (M7.1 57 x2.toNatClampNeg).toNatClampNeg ((M7.2 68 (M7.1 57 x2.toNatClampNeg).toNatClampNeg) - r9) → q_Mo_makeRim_L23 kx87 post n x1 (x2 + 1) M10)))))))))))
set_option maxHeartbeats 4000000 in
theorem s_Mo_makeRim_L23 {γ : Gm} {κ : Kp} {post : Mem → Prop} {kx87 : Int32 → Mem → Prop} (C : Cx γ κ "NetFormsModel" b_Mo_makeRim 3 1 (0, 0)) (R : Rt γ (none)) (hx87 : ∀ y1 M', kx87 y1 M' → G γ κ 3 (0, 0) (Gq γ κ (pV post)) 87 [(0, .ref (κ.1 + 56)), (1, .int y1)] [] M') : ∀ (n : Nat) (x1 : Int32) (x2 : Int32) (M : Mem), q_Mo_makeRim_L23 kx87 post n x1 x2 M → G γ κ 3 (0, 0) (Gq γ κ (pV post)) 23 [(0, .ref (κ.1 + 56)), (1, .int x1), (2, .int x2)] [] M := by
  intro n
  induction n with
  | zero => intro x1 x2 M hq; exact hq.elim
  | succ n ih =>
    intro x1 x2 M hq
    unfold q_Mo_makeRim_L23 at hq
    refine G_iload_n C 2 d_Mo_makeRim_23 rfl rfl ?_
    refine G_aload_n C 0 d_Mo_makeRim_24 rfl rfl ?_
    refine Gg_Mo_edges C wd_522 d_Mo_makeRim_25 ?_
    refine G_icmp_ge C (tgt := 87) d_Mo_makeRim_28 (by decide) (fun c => ?_) (fun c => ?_)
    · replace hq := hq.1 c
      exact G_sub [0, 1] (by rfl) (hx87 _ _ hq)
    · replace hq := hq.2 c
      refine G_aload_n C 0 d_Mo_makeRim_31 rfl rfl ?_
      refine Gg_Mo_degree C wd_529 d_Mo_makeRim_32 ?_
      refine G_iload_n C 1 d_Mo_makeRim_35 rfl rfl ?_
      refine G_iaload C (k := 62) (by decide) (fun _ _ => rfl) hq.1 d_Mo_makeRim_36 ?_
      replace hq := hq.2
      refine G_iconst C (v := 1) d_Mo_makeRim_37 (by decide) ?_
      refine G_icmp_ne C (tgt := 87) d_Mo_makeRim_38 (by decide) (fun c => ?_) (fun c => ?_)
      · replace hq := hq.1 c
        exact G_sub [0, 1] (by rfl) (hx87 _ _ hq)
      · replace hq := hq.2 c
        refine G_aload_n C 0 d_Mo_makeRim_41 rfl rfl ?_
        refine Gg_Mo_made C wd_536 d_Mo_makeRim_42 ?_
        refine G_aload_n C 0 d_Mo_makeRim_45 rfl rfl ?_
        refine Gg_Mo_end C wd_525 d_Mo_makeRim_46 ?_
        refine G_iload_n C 2 d_Mo_makeRim_49 rfl rfl ?_
        refine G_iaload C (k := 58) (by decide) (fun _ _ => rfl) hq.1 d_Mo_makeRim_50 ?_
        replace hq := hq.2
        refine G_dup2 C d_Mo_makeRim_51 rfl rfl ?_
        refine G_laload C (k := 68) (by decide) (fun _ _ => rfl) hq.1 d_Mo_makeRim_52 ?_
        replace hq := hq.2
        refine G_aload_n C 0 d_Mo_makeRim_53 rfl rfl ?_
        refine G_iload_n C 1 d_Mo_makeRim_54 rfl rfl ?_
        refine G_iload_n C 2 d_Mo_makeRim_55 rfl rfl ?_
        refine G_callV C (s_Mo_at hq) v_Mo_at i_Mo_at z_Mo_at wd_668 (by decide) rfl (k := 56) (ci := 7) (by decide) rfl rfl rfl (rest := [_, _, _]) (by rfl) (Nat.le_of_ble_eq_true rfl) d_Mo_makeRim_56 (kj_ (fun r6 M5 hq => ?_))
        refine G_ladd C d_Mo_makeRim_59 ?_
        refine G_lastore C (k := 68) (by decide) (fun _ _ => rfl) hq.1 d_Mo_makeRim_60 ?_
        replace hq := hq.2 _ rfl
        refine G_aload_n C 0 d_Mo_makeRim_61 rfl rfl ?_
        refine Gg_Mo_made C wd_536 d_Mo_makeRim_62 ?_
        refine G_aload_n C 0 d_Mo_makeRim_65 rfl rfl ?_
        refine Gg_Mo_begin C wd_524 d_Mo_makeRim_66 ?_
        refine G_iload_n C 2 d_Mo_makeRim_69 rfl rfl ?_
        refine G_iaload C (k := 57) (by decide) (fun _ _ => rfl) hq.1 d_Mo_makeRim_70 ?_
        replace hq := hq.2
        refine G_dup2 C d_Mo_makeRim_71 rfl rfl ?_
        refine G_laload C (k := 68) (by decide) (fun _ _ => rfl) hq.1 d_Mo_makeRim_72 ?_
        replace hq := hq.2
        refine G_aload_n C 0 d_Mo_makeRim_73 rfl rfl ?_
        refine G_iload_n C 1 d_Mo_makeRim_74 rfl rfl ?_
        refine G_iload_n C 2 d_Mo_makeRim_75 rfl rfl ?_
        refine G_callV C (s_Mo_at hq) v_Mo_at i_Mo_at z_Mo_at wd_668 (by decide) rfl (k := 56) (ci := 7) (by decide) rfl rfl rfl (rest := [_, _, _]) (by rfl) (Nat.le_of_ble_eq_true rfl) d_Mo_makeRim_76 (kj_ (fun r9 M8 hq => ?_))
        refine G_lsub C d_Mo_makeRim_79 ?_
        refine G_lastore C (k := 68) (by decide) (fun _ _ => rfl) hq.1 d_Mo_makeRim_80 ?_
        replace hq := hq.2 _ rfl
        refine G_iinc C (v := _ + 1) (lv' := [(2, _), (0, _), (1, _)]) 2 d_Mo_makeRim_81 rfl rfl (by decide) rfl ?_
        refine G_goto C (tgt := 23) d_Mo_makeRim_84 (by decide) ?_
        exact G_sub [1, 2, 0] (by rfl) (ih _ _ _ hq)
def q_Mo_makeRim_L89 (kx203 : Mem → Prop) (post : Mem → Prop) : Nat → Int32 → Int32 → Mem → Prop
  | 0, _, _, _ => False
  | n + 1, x1, x2, M => ((M.1 56 2) ≤ x2 → kx203 M) ∧ (¬ (M.1 56 2) ≤ x2 → vp_in x1 12 ∧ ((¬ (M.1 62 x1.toNatClampNeg) = (2 : Int32) → kx203 M) ∧ ((M.1 62 x1.toNatClampNeg) = (2 : Int32) → vp_in x2 10 ∧ (vp_in x2 10 ∧ (q_Mo_edgeOf (M.1 59 x2.toNatClampNeg) (M.1 60 x2.toNatClampNeg) M (fun r15 M14 => vp_in r15 12 ∧ (q_Mo_at x1 x2 M14 (fun r17 M16 => vp_in r15 12 ∧ (∀ M18, M18 = wJ M16 68 r15.toNatClampNeg ((M14.2 68 r15.toNatClampNeg) + r17) → vp_in x2 10 ∧ (vp_in x2 10 ∧ (q_Mo_edgeOf (M18.1 60 x2.toNatClampNeg) (M18.1 61 x2.toNatClampNeg) M18 (fun r20 M19 => vp_in r20 12 ∧ (q_Mo_at x1 x2 M19 (fun r22 M21 => vp_in r20 12 ∧ (∀ M23, M23 = wJ M21 68 r20.toNatClampNeg ((M19.2 68 r20.toNatClampNeg) + r22) → vp_in x2 10 ∧ (vp_in x2 10 ∧ (q_Mo_edgeOf (M23.1 59 x2.toNatClampNeg) (M23.1 61 x2.toNatClampNeg) M23 (fun r25 M24 => vp_in r25 12 ∧ (q_Mo_at x1 x2 M24 (fun r27 M26 => vp_in r25 12 ∧ (∀ M28, M28 = wJ M26 68 r25.toNatClampNeg ((M24.2 68 r25.toNatClampNeg) - r27) → q_Mo_makeRim_L89 kx203 post n x1 (x2 + 1) M28)))))))))))))))))))))
set_option maxHeartbeats 4000000 in
theorem s_Mo_makeRim_L89 {γ : Gm} {κ : Kp} {post : Mem → Prop} {kx203 : Mem → Prop} (C : Cx γ κ "NetFormsModel" b_Mo_makeRim 3 1 (0, 0)) (R : Rt γ (none)) (hx203 : ∀ M', kx203 M' → G γ κ 3 (0, 0) (Gq γ κ (pV post)) 203 [] [] M') : ∀ (n : Nat) (x1 : Int32) (x2 : Int32) (M : Mem), q_Mo_makeRim_L89 kx203 post n x1 x2 M → G γ κ 3 (0, 0) (Gq γ κ (pV post)) 89 [(0, .ref (κ.1 + 56)), (1, .int x1), (2, .int x2)] [] M := by
  intro n
  induction n with
  | zero => intro x1 x2 M hq; exact hq.elim
  | succ n ih =>
    intro x1 x2 M hq
    unfold q_Mo_makeRim_L89 at hq
    refine G_iload_n C 2 d_Mo_makeRim_89 rfl rfl ?_
    refine G_aload_n C 0 d_Mo_makeRim_90 rfl rfl ?_
    refine Gg_Mo_faces C wd_523 d_Mo_makeRim_91 ?_
    refine G_icmp_ge C (tgt := 203) d_Mo_makeRim_94 (by decide) (fun c => ?_) (fun c => ?_)
    · replace hq := hq.1 c
      exact G_sub [] (by rfl) (hx203 _ hq)
    · replace hq := hq.2 c
      refine G_aload_n C 0 d_Mo_makeRim_97 rfl rfl ?_
      refine Gg_Mo_degree C wd_529 d_Mo_makeRim_98 ?_
      refine G_iload_n C 1 d_Mo_makeRim_101 rfl rfl ?_
      refine G_iaload C (k := 62) (by decide) (fun _ _ => rfl) hq.1 d_Mo_makeRim_102 ?_
      replace hq := hq.2
      refine G_iconst C (v := 2) d_Mo_makeRim_103 (by decide) ?_
      refine G_icmp_ne C (tgt := 203) d_Mo_makeRim_104 (by decide) (fun c => ?_) (fun c => ?_)
      · replace hq := hq.1 c
        exact G_sub [] (by rfl) (hx203 _ hq)
      · replace hq := hq.2 c
        refine G_aload_n C 0 d_Mo_makeRim_107 rfl rfl ?_
        refine Gg_Mo_made C wd_536 d_Mo_makeRim_108 ?_
        refine G_aload_n C 0 d_Mo_makeRim_111 rfl rfl ?_
        refine G_aload_n C 0 d_Mo_makeRim_112 rfl rfl ?_
        refine Gg_Mo_first C wd_526 d_Mo_makeRim_113 ?_
        refine G_iload_n C 2 d_Mo_makeRim_116 rfl rfl ?_
        refine G_iaload C (k := 59) (by decide) (fun _ _ => rfl) hq.1 d_Mo_makeRim_117 ?_
        replace hq := hq.2
        refine G_aload_n C 0 d_Mo_makeRim_118 rfl rfl ?_
        refine Gg_Mo_second C wd_527 d_Mo_makeRim_119 ?_
        refine G_iload_n C 2 d_Mo_makeRim_122 rfl rfl ?_
        refine G_iaload C (k := 60) (by decide) (fun _ _ => rfl) hq.1 d_Mo_makeRim_123 ?_
        replace hq := hq.2
        refine G_callV C (s_Mo_edgeOf hq) v_Mo_edgeOf i_Mo_edgeOf z_Mo_edgeOf wd_620 (by decide) rfl (k := 56) (ci := 7) (by decide) rfl rfl rfl (rest := [_]) (by rfl) (Nat.le_of_ble_eq_true rfl) d_Mo_makeRim_124 (ki_ (fun r15 M14 hq => ?_))
        refine G_dup2 C d_Mo_makeRim_127 rfl rfl ?_
        refine G_laload C (k := 68) (by decide) (fun _ _ => rfl) hq.1 d_Mo_makeRim_128 ?_
        replace hq := hq.2
        refine G_aload_n C 0 d_Mo_makeRim_129 rfl rfl ?_
        refine G_iload_n C 1 d_Mo_makeRim_130 rfl rfl ?_
        refine G_iload_n C 2 d_Mo_makeRim_131 rfl rfl ?_
        refine G_callV C (s_Mo_at hq) v_Mo_at i_Mo_at z_Mo_at wd_668 (by decide) rfl (k := 56) (ci := 7) (by decide) rfl rfl rfl (rest := [_, _, _]) (by rfl) (Nat.le_of_ble_eq_true rfl) d_Mo_makeRim_132 (kj_ (fun r17 M16 hq => ?_))
        refine G_ladd C d_Mo_makeRim_135 ?_
        refine G_lastore C (k := 68) (by decide) (fun _ _ => rfl) hq.1 d_Mo_makeRim_136 ?_
        replace hq := hq.2 _ rfl
        refine G_aload_n C 0 d_Mo_makeRim_137 rfl rfl ?_
        refine Gg_Mo_made C wd_536 d_Mo_makeRim_138 ?_
        refine G_aload_n C 0 d_Mo_makeRim_141 rfl rfl ?_
        refine G_aload_n C 0 d_Mo_makeRim_142 rfl rfl ?_
        refine Gg_Mo_second C wd_527 d_Mo_makeRim_143 ?_
        refine G_iload_n C 2 d_Mo_makeRim_146 rfl rfl ?_
        refine G_iaload C (k := 60) (by decide) (fun _ _ => rfl) hq.1 d_Mo_makeRim_147 ?_
        replace hq := hq.2
        refine G_aload_n C 0 d_Mo_makeRim_148 rfl rfl ?_
        refine Gg_Mo_third C wd_528 d_Mo_makeRim_149 ?_
        refine G_iload_n C 2 d_Mo_makeRim_152 rfl rfl ?_
        refine G_iaload C (k := 61) (by decide) (fun _ _ => rfl) hq.1 d_Mo_makeRim_153 ?_
        replace hq := hq.2
        refine G_callV C (s_Mo_edgeOf hq) v_Mo_edgeOf i_Mo_edgeOf z_Mo_edgeOf wd_620 (by decide) rfl (k := 56) (ci := 7) (by decide) rfl rfl rfl (rest := [_]) (by rfl) (Nat.le_of_ble_eq_true rfl) d_Mo_makeRim_154 (ki_ (fun r20 M19 hq => ?_))
        refine G_dup2 C d_Mo_makeRim_157 rfl rfl ?_
        refine G_laload C (k := 68) (by decide) (fun _ _ => rfl) hq.1 d_Mo_makeRim_158 ?_
        replace hq := hq.2
        refine G_aload_n C 0 d_Mo_makeRim_159 rfl rfl ?_
        refine G_iload_n C 1 d_Mo_makeRim_160 rfl rfl ?_
        refine G_iload_n C 2 d_Mo_makeRim_161 rfl rfl ?_
        refine G_callV C (s_Mo_at hq) v_Mo_at i_Mo_at z_Mo_at wd_668 (by decide) rfl (k := 56) (ci := 7) (by decide) rfl rfl rfl (rest := [_, _, _]) (by rfl) (Nat.le_of_ble_eq_true rfl) d_Mo_makeRim_162 (kj_ (fun r22 M21 hq => ?_))
        refine G_ladd C d_Mo_makeRim_165 ?_
        refine G_lastore C (k := 68) (by decide) (fun _ _ => rfl) hq.1 d_Mo_makeRim_166 ?_
        replace hq := hq.2 _ rfl
        refine G_aload_n C 0 d_Mo_makeRim_167 rfl rfl ?_
        refine Gg_Mo_made C wd_536 d_Mo_makeRim_168 ?_
        refine G_aload_n C 0 d_Mo_makeRim_171 rfl rfl ?_
        refine G_aload_n C 0 d_Mo_makeRim_172 rfl rfl ?_
        refine Gg_Mo_first C wd_526 d_Mo_makeRim_173 ?_
        refine G_iload_n C 2 d_Mo_makeRim_176 rfl rfl ?_
        refine G_iaload C (k := 59) (by decide) (fun _ _ => rfl) hq.1 d_Mo_makeRim_177 ?_
        replace hq := hq.2
        refine G_aload_n C 0 d_Mo_makeRim_178 rfl rfl ?_
        refine Gg_Mo_third C wd_528 d_Mo_makeRim_179 ?_
        refine G_iload_n C 2 d_Mo_makeRim_182 rfl rfl ?_
        refine G_iaload C (k := 61) (by decide) (fun _ _ => rfl) hq.1 d_Mo_makeRim_183 ?_
        replace hq := hq.2
        refine G_callV C (s_Mo_edgeOf hq) v_Mo_edgeOf i_Mo_edgeOf z_Mo_edgeOf wd_620 (by decide) rfl (k := 56) (ci := 7) (by decide) rfl rfl rfl (rest := [_]) (by rfl) (Nat.le_of_ble_eq_true rfl) d_Mo_makeRim_184 (ki_ (fun r25 M24 hq => ?_))
        refine G_dup2 C d_Mo_makeRim_187 rfl rfl ?_
        refine G_laload C (k := 68) (by decide) (fun _ _ => rfl) hq.1 d_Mo_makeRim_188 ?_
        replace hq := hq.2
        refine G_aload_n C 0 d_Mo_makeRim_189 rfl rfl ?_
        refine G_iload_n C 1 d_Mo_makeRim_190 rfl rfl ?_
        refine G_iload_n C 2 d_Mo_makeRim_191 rfl rfl ?_
        refine G_callV C (s_Mo_at hq) v_Mo_at i_Mo_at z_Mo_at wd_668 (by decide) rfl (k := 56) (ci := 7) (by decide) rfl rfl rfl (rest := [_, _, _]) (by rfl) (Nat.le_of_ble_eq_true rfl) d_Mo_makeRim_192 (kj_ (fun r27 M26 hq => ?_))
        refine G_lsub C d_Mo_makeRim_195 ?_
        refine G_lastore C (k := 68) (by decide) (fun _ _ => rfl) hq.1 d_Mo_makeRim_196 ?_
        replace hq := hq.2 _ rfl
        refine G_iinc C (v := _ + 1) (lv' := [(2, _), (0, _), (1, _)]) 2 d_Mo_makeRim_197 rfl rfl (by decide) rfl ?_
        refine G_goto C (tgt := 89) d_Mo_makeRim_200 (by decide) ?_
        exact G_sub [1, 2, 0] (by rfl) (ih _ _ _ hq)
def q_Mo_makeRim (a1 : Int32) (M : Mem) (post : Mem → Prop) : Prop := ∃ n2, q_Mo_makeRim_L2 (fun x3 M4 => ∃ n11, q_Mo_makeRim_L23 (fun x12 M13 => ∃ n29, q_Mo_makeRim_L89 (fun M30 => post M30) post n29 x12 (0 : Int32) M13) post n11 x3 (0 : Int32) M4) post n2 a1 (0 : Int32) M
set_option maxHeartbeats 4000000 in
theorem s_Mo_makeRim {l : Launch} {κ : Kp} {a1 : Int32} {M : Mem} {post : Mem → Prop} (hq : q_Mo_makeRim a1 M post) : Ct l κ y_Mo_makeRim b_Mo_makeRim 3 (none) 1 [.ref (κ.1 + 56), .int a1] M (pV post) := by
  refine Ct_of (by decide) (Nat.le_of_ble_eq_true rfl) (fun γ hγ C R => ?_)
  subst hγ
  unfold q_Mo_makeRim at hq
  show G γ κ 3 (0, 0) (Gq γ κ (pV post)) 0 [(0, .ref (κ.1 + 56)), (1, .int a1)] [] M
  refine G_iconst C (v := 0) d_Mo_makeRim_0 (by decide) ?_
  refine G_istore_n C (lv' := [(2, _), (0, _), (1, _)]) d_Mo_makeRim_1 rfl (by decide) rfl ?_
  obtain ⟨n2, hq⟩ := hq
  refine G_sub [1, 2, 0] (by rfl) (s_Mo_makeRim_L2 C R ?_ n2 _ _ _ hq)
  · intro x3 M4 hq
    refine G_iconst C (v := 0) d_Mo_makeRim_21 (by decide) ?_
    refine G_istore_n C (lv' := [(2, _), (0, _), (1, _)]) d_Mo_makeRim_22 rfl (by decide) rfl ?_
    obtain ⟨n11, hq⟩ := hq
    refine G_sub [1, 2, 0] (by rfl) (s_Mo_makeRim_L23 C R ?_ n11 _ _ _ hq)
    · intro x12 M13 hq
      refine G_iconst C (v := 0) d_Mo_makeRim_87 (by decide) ?_
      refine G_istore_n C (lv' := [(2, _), (0, _), (1, _)]) d_Mo_makeRim_88 rfl (by decide) rfl ?_
      obtain ⟨n29, hq⟩ := hq
      refine G_sub [1, 2, 0] (by rfl) (s_Mo_makeRim_L89 C R ?_ n29 _ _ _ hq)
      · intro M30 hq
        exact G_vret C R d_Mo_makeRim_203 ⟨rfl, hq⟩
theorem d_Mo_isNought_0 : decode b_Mo_isNought 0 = .ok (.iconst 1, 1) := by decide +kernel
theorem d_Mo_isNought_1 : decode b_Mo_isNought 1 = .ok (.istore_n 2, 1) := by decide +kernel
theorem d_Mo_isNought_2 : decode b_Mo_isNought 2 = .ok (.iconst 0, 1) := by decide +kernel
theorem d_Mo_isNought_3 : decode b_Mo_isNought 3 = .ok (.istore_n 3, 1) := by decide +kernel
theorem d_Mo_isNought_4 : decode b_Mo_isNought 4 = .ok (.iload_n 3, 1) := by decide +kernel
theorem d_Mo_isNought_5 : decode b_Mo_isNought 5 = .ok (.aload_n 0, 1) := by decide +kernel
theorem d_Mo_isNought_6 : decode b_Mo_isNought 6 = .ok (.iload_n 1, 1) := by decide +kernel
theorem d_Mo_isNought_7 : decode b_Mo_isNought 7 = .ok (.invokevirtual 107, 3) := by decide +kernel
theorem d_Mo_isNought_10 : decode b_Mo_isNought 10 = .ok (.if_icmp .ge 30, 3) := by decide +kernel
theorem d_Mo_isNought_13 : decode b_Mo_isNought 13 = .ok (.iload_n 2, 1) := by decide +kernel
theorem d_Mo_isNought_14 : decode b_Mo_isNought 14 = .ok (.ifCond .eq 18, 3) := by decide +kernel
theorem d_Mo_isNought_17 : decode b_Mo_isNought 17 = .ok (.aload_n 0, 1) := by decide +kernel
theorem d_Mo_isNought_18 : decode b_Mo_isNought 18 = .ok (.getfield 49, 3) := by decide +kernel
theorem d_Mo_isNought_21 : decode b_Mo_isNought 21 = .ok (.iload_n 3, 1) := by decide +kernel
theorem d_Mo_isNought_22 : decode b_Mo_isNought 22 = .ok (.laload, 1) := by decide +kernel
theorem d_Mo_isNought_23 : decode b_Mo_isNought 23 = .ok (.lconst 0, 1) := by decide +kernel
theorem d_Mo_isNought_24 : decode b_Mo_isNought 24 = .ok (.lcmp, 1) := by decide +kernel
theorem d_Mo_isNought_25 : decode b_Mo_isNought 25 = .ok (.ifCond .ne 7, 3) := by decide +kernel
theorem d_Mo_isNought_28 : decode b_Mo_isNought 28 = .ok (.iconst 1, 1) := by decide +kernel
theorem d_Mo_isNought_29 : decode b_Mo_isNought 29 = .ok (.goto 4, 3) := by decide +kernel
theorem d_Mo_isNought_32 : decode b_Mo_isNought 32 = .ok (.iconst 0, 1) := by decide +kernel
theorem d_Mo_isNought_33 : decode b_Mo_isNought 33 = .ok (.istore_n 2, 1) := by decide +kernel
theorem d_Mo_isNought_34 : decode b_Mo_isNought 34 = .ok (.iinc 3 1, 3) := by decide +kernel
theorem d_Mo_isNought_37 : decode b_Mo_isNought 37 = .ok (.goto (-33), 3) := by decide +kernel
theorem d_Mo_isNought_40 : decode b_Mo_isNought 40 = .ok (.iload_n 2, 1) := by decide +kernel
theorem d_Mo_isNought_41 : decode b_Mo_isNought 41 = .ok (.ireturn, 1) := by decide +kernel
def q_Mo_isNought_L4 (kx40 : Int32 → Mem → Prop) (post : Int32 → Mem → Prop) : Nat → Int32 → Int32 → Int32 → Mem → Prop
  | 0, _, _, _, _ => False
  | n + 1, x1, x2, x3, M => q_Mo_size x1 M (fun r2 M1 => (r2 ≤ x3 → kx40 x2 M1) ∧ (¬ r2 ≤ x3 → (x2 = 0 → q_Mo_isNought_L4 kx40 post n x1 (0 : Int32) (x3 + 1) M1) ∧ (¬ x2 = 0 → vp_in x3 12 ∧ ((¬ (M1.2 68 x3.toNatClampNeg) = (0 : Int64) → q_Mo_isNought_L4 kx40 post n x1 (0 : Int32) (x3 + 1) M1) ∧ ((M1.2 68 x3.toNatClampNeg) = (0 : Int64) → q_Mo_isNought_L4 kx40 post n x1 (1 : Int32) (x3 + 1) M1)))))
set_option maxHeartbeats 4000000 in
theorem s_Mo_isNought_L4 {γ : Gm} {κ : Kp} {post : Int32 → Mem → Prop} {kx40 : Int32 → Mem → Prop} (C : Cx γ κ "NetFormsModel" b_Mo_isNought 4 1 (0, 0)) (R : Rt γ (some .boolean)) (hx40 : ∀ y0 M', kx40 y0 M' → G γ κ 4 (0, 0) (Gq γ κ (pI post)) 40 [(2, .int y0)] [] M') : ∀ (n : Nat) (x1 : Int32) (x2 : Int32) (x3 : Int32) (M : Mem), q_Mo_isNought_L4 kx40 post n x1 x2 x3 M → G γ κ 4 (0, 0) (Gq γ κ (pI post)) 4 [(0, .ref (κ.1 + 56)), (1, .int x1), (2, .int x2), (3, .int x3)] [] M := by
  intro n
  induction n with
  | zero => intro x1 x2 x3 M hq; exact hq.elim
  | succ n ih =>
    intro x1 x2 x3 M hq
    unfold q_Mo_isNought_L4 at hq
    refine G_iload_n C 3 d_Mo_isNought_4 rfl rfl ?_
    refine G_aload_n C 0 d_Mo_isNought_5 rfl rfl ?_
    refine G_iload_n C 1 d_Mo_isNought_6 rfl rfl ?_
    refine G_callV C (s_Mo_size hq) v_Mo_size i_Mo_size z_Mo_size wd_649 (by decide) rfl (k := 56) (ci := 7) (by decide) rfl rfl rfl (rest := [_]) (by rfl) (Nat.le_of_ble_eq_true rfl) d_Mo_isNought_7 (ki_ (fun r2 M1 hq => ?_))
    refine G_icmp_ge C (tgt := 40) d_Mo_isNought_10 (by decide) (fun c => ?_) (fun c => ?_)
    · replace hq := hq.1 c
      exact G_sub [2] (by rfl) (hx40 _ _ hq)
    · replace hq := hq.2 c
      refine G_iload_n C 2 d_Mo_isNought_13 rfl rfl ?_
      refine G_if_eq C (tgt := 32) d_Mo_isNought_14 (by decide) (fun c => ?_) (fun c => ?_)
      · replace hq := hq.1 c
        refine G_iconst C (v := 0) d_Mo_isNought_32 (by decide) ?_
        refine G_istore_n C (lv' := [(2, _), (0, _), (1, _), (3, _)]) d_Mo_isNought_33 rfl (by decide) rfl ?_
        refine G_iinc C (v := _ + 1) (lv' := [(3, _), (2, _), (0, _), (1, _)]) 3 d_Mo_isNought_34 rfl rfl (by decide) rfl ?_
        refine G_goto C (tgt := 4) d_Mo_isNought_37 (by decide) ?_
        exact G_sub [2, 3, 1, 0] (by rfl) (ih _ _ _ _ hq)
      · replace hq := hq.2 c
        refine G_aload_n C 0 d_Mo_isNought_17 rfl rfl ?_
        refine Gg_Mo_made C wd_536 d_Mo_isNought_18 ?_
        refine G_iload_n C 3 d_Mo_isNought_21 rfl rfl ?_
        refine G_laload C (k := 68) (by decide) (fun _ _ => rfl) hq.1 d_Mo_isNought_22 ?_
        replace hq := hq.2
        refine G_lconst C (v := 0) d_Mo_isNought_23 (by decide) ?_
        refine G_lcmp_ne C (tgt := 32) (pc1 := 25) d_Mo_isNought_24 rfl d_Mo_isNought_25 (by decide) (fun c => ?_) (fun c => ?_)
        · replace hq := hq.1 c
          refine G_iconst C (v := 0) d_Mo_isNought_32 (by decide) ?_
          refine G_istore_n C (lv' := [(2, _), (0, _), (1, _), (3, _)]) d_Mo_isNought_33 rfl (by decide) rfl ?_
          refine G_iinc C (v := _ + 1) (lv' := [(3, _), (2, _), (0, _), (1, _)]) 3 d_Mo_isNought_34 rfl rfl (by decide) rfl ?_
          refine G_goto C (tgt := 4) d_Mo_isNought_37 (by decide) ?_
          exact G_sub [2, 3, 1, 0] (by rfl) (ih _ _ _ _ hq)
        · replace hq := hq.2 c
          refine G_iconst C (v := 1) d_Mo_isNought_28 (by decide) ?_
          refine G_goto C (tgt := 33) d_Mo_isNought_29 (by decide) ?_
          refine G_istore_n C (lv' := [(2, _), (0, _), (1, _), (3, _)]) d_Mo_isNought_33 rfl (by decide) rfl ?_
          refine G_iinc C (v := _ + 1) (lv' := [(3, _), (2, _), (0, _), (1, _)]) 3 d_Mo_isNought_34 rfl rfl (by decide) rfl ?_
          refine G_goto C (tgt := 4) d_Mo_isNought_37 (by decide) ?_
          exact G_sub [2, 3, 1, 0] (by rfl) (ih _ _ _ _ hq)
def q_Mo_isNought (a1 : Int32) (M : Mem) (post : Int32 → Mem → Prop) : Prop := ∃ n3, q_Mo_isNought_L4 (fun x4 M5 => narrow .boolean (.int x4) = .int x4 ∧ post x4 M5) post n3 a1 (1 : Int32) (0 : Int32) M
set_option maxHeartbeats 4000000 in
theorem s_Mo_isNought {l : Launch} {κ : Kp} {a1 : Int32} {M : Mem} {post : Int32 → Mem → Prop} (hq : q_Mo_isNought a1 M post) : Ct l κ y_Mo_isNought b_Mo_isNought 4 (some .boolean) 1 [.ref (κ.1 + 56), .int a1] M (pI post) := by
  refine Ct_of (by decide) (Nat.le_of_ble_eq_true rfl) (fun γ hγ C R => ?_)
  subst hγ
  unfold q_Mo_isNought at hq
  show G γ κ 4 (0, 0) (Gq γ κ (pI post)) 0 [(0, .ref (κ.1 + 56)), (1, .int a1)] [] M
  refine G_iconst C (v := 1) d_Mo_isNought_0 (by decide) ?_
  refine G_istore_n C (lv' := [(2, _), (0, _), (1, _)]) d_Mo_isNought_1 rfl (by decide) rfl ?_
  refine G_iconst C (v := 0) d_Mo_isNought_2 (by decide) ?_
  refine G_istore_n C (lv' := [(3, _), (2, _), (0, _), (1, _)]) d_Mo_isNought_3 rfl (by decide) rfl ?_
  obtain ⟨n3, hq⟩ := hq
  refine G_sub [2, 3, 1, 0] (by rfl) (s_Mo_isNought_L4 C R ?_ n3 _ _ _ _ hq)
  · intro x4 M5 hq
    refine G_iload_n C 0 d_Mo_isNought_40 rfl rfl ?_
    exact G_zret C R hq.1 d_Mo_isNought_41 ⟨_, rfl, hq.2⟩
theorem d_Mo_parts_0 : decode b_Mo_parts 0 = .ok (.iconst 0, 1) := by decide +kernel
theorem d_Mo_parts_1 : decode b_Mo_parts 1 = .ok (.istore_n 1, 1) := by decide +kernel
theorem d_Mo_parts_2 : decode b_Mo_parts 2 = .ok (.iload_n 1, 1) := by decide +kernel
theorem d_Mo_parts_3 : decode b_Mo_parts 3 = .ok (.aload_n 0, 1) := by decide +kernel
theorem d_Mo_parts_4 : decode b_Mo_parts 4 = .ok (.getfield 7, 3) := by decide +kernel
theorem d_Mo_parts_7 : decode b_Mo_parts 7 = .ok (.if_icmp .ge 16, 3) := by decide +kernel
theorem d_Mo_parts_10 : decode b_Mo_parts 10 = .ok (.aload_n 0, 1) := by decide +kernel
theorem d_Mo_parts_11 : decode b_Mo_parts 11 = .ok (.getfield 61, 3) := by decide +kernel
theorem d_Mo_parts_14 : decode b_Mo_parts 14 = .ok (.iload_n 1, 1) := by decide +kernel
theorem d_Mo_parts_15 : decode b_Mo_parts 15 = .ok (.iload_n 1, 1) := by decide +kernel
theorem d_Mo_parts_16 : decode b_Mo_parts 16 = .ok (.iastore, 1) := by decide +kernel
theorem d_Mo_parts_17 : decode b_Mo_parts 17 = .ok (.iinc 1 1, 3) := by decide +kernel
theorem d_Mo_parts_20 : decode b_Mo_parts 20 = .ok (.goto (-18), 3) := by decide +kernel
theorem d_Mo_parts_23 : decode b_Mo_parts 23 = .ok (.iconst 0, 1) := by decide +kernel
theorem d_Mo_parts_24 : decode b_Mo_parts 24 = .ok (.istore_n 1, 1) := by decide +kernel
theorem d_Mo_parts_25 : decode b_Mo_parts 25 = .ok (.iload_n 1, 1) := by decide +kernel
theorem d_Mo_parts_26 : decode b_Mo_parts 26 = .ok (.aload_n 0, 1) := by decide +kernel
theorem d_Mo_parts_27 : decode b_Mo_parts 27 = .ok (.getfield 79, 3) := by decide +kernel
theorem d_Mo_parts_30 : decode b_Mo_parts 30 = .ok (.if_icmp .ge 25, 3) := by decide +kernel
theorem d_Mo_parts_33 : decode b_Mo_parts 33 = .ok (.aload_n 0, 1) := by decide +kernel
theorem d_Mo_parts_34 : decode b_Mo_parts 34 = .ok (.aload_n 0, 1) := by decide +kernel
theorem d_Mo_parts_35 : decode b_Mo_parts 35 = .ok (.getfield 13, 3) := by decide +kernel
theorem d_Mo_parts_38 : decode b_Mo_parts 38 = .ok (.iload_n 1, 1) := by decide +kernel
theorem d_Mo_parts_39 : decode b_Mo_parts 39 = .ok (.iaload, 1) := by decide +kernel
theorem d_Mo_parts_40 : decode b_Mo_parts 40 = .ok (.aload_n 0, 1) := by decide +kernel
theorem d_Mo_parts_41 : decode b_Mo_parts 41 = .ok (.getfield 17, 3) := by decide +kernel
theorem d_Mo_parts_44 : decode b_Mo_parts 44 = .ok (.iload_n 1, 1) := by decide +kernel
theorem d_Mo_parts_45 : decode b_Mo_parts 45 = .ok (.iaload, 1) := by decide +kernel
theorem d_Mo_parts_46 : decode b_Mo_parts 46 = .ok (.invokevirtual 177, 3) := by decide +kernel
theorem d_Mo_parts_49 : decode b_Mo_parts 49 = .ok (.iinc 1 1, 3) := by decide +kernel
theorem d_Mo_parts_52 : decode b_Mo_parts 52 = .ok (.goto (-27), 3) := by decide +kernel
theorem d_Mo_parts_55 : decode b_Mo_parts 55 = .ok (.iconst 0, 1) := by decide +kernel
theorem d_Mo_parts_56 : decode b_Mo_parts 56 = .ok (.istore_n 1, 1) := by decide +kernel
theorem d_Mo_parts_57 : decode b_Mo_parts 57 = .ok (.iconst 0, 1) := by decide +kernel
theorem d_Mo_parts_58 : decode b_Mo_parts 58 = .ok (.istore_n 2, 1) := by decide +kernel
theorem d_Mo_parts_59 : decode b_Mo_parts 59 = .ok (.iload_n 2, 1) := by decide +kernel
theorem d_Mo_parts_60 : decode b_Mo_parts 60 = .ok (.aload_n 0, 1) := by decide +kernel
theorem d_Mo_parts_61 : decode b_Mo_parts 61 = .ok (.getfield 7, 3) := by decide +kernel
theorem d_Mo_parts_64 : decode b_Mo_parts 64 = .ok (.if_icmp .ge 27, 3) := by decide +kernel
theorem d_Mo_parts_67 : decode b_Mo_parts 67 = .ok (.iload_n 1, 1) := by decide +kernel
theorem d_Mo_parts_68 : decode b_Mo_parts 68 = .ok (.aload_n 0, 1) := by decide +kernel
theorem d_Mo_parts_69 : decode b_Mo_parts 69 = .ok (.getfield 61, 3) := by decide +kernel
theorem d_Mo_parts_72 : decode b_Mo_parts 72 = .ok (.iload_n 2, 1) := by decide +kernel
theorem d_Mo_parts_73 : decode b_Mo_parts 73 = .ok (.iaload, 1) := by decide +kernel
theorem d_Mo_parts_74 : decode b_Mo_parts 74 = .ok (.iload_n 2, 1) := by decide +kernel
theorem d_Mo_parts_75 : decode b_Mo_parts 75 = .ok (.if_icmp .ne 7, 3) := by decide +kernel
theorem d_Mo_parts_78 : decode b_Mo_parts 78 = .ok (.iconst 1, 1) := by decide +kernel
theorem d_Mo_parts_79 : decode b_Mo_parts 79 = .ok (.goto 4, 3) := by decide +kernel
theorem d_Mo_parts_82 : decode b_Mo_parts 82 = .ok (.iconst 0, 1) := by decide +kernel
theorem d_Mo_parts_83 : decode b_Mo_parts 83 = .ok (.iadd, 1) := by decide +kernel
theorem d_Mo_parts_84 : decode b_Mo_parts 84 = .ok (.istore_n 1, 1) := by decide +kernel
theorem d_Mo_parts_85 : decode b_Mo_parts 85 = .ok (.iinc 2 1, 3) := by decide +kernel
theorem d_Mo_parts_88 : decode b_Mo_parts 88 = .ok (.goto (-29), 3) := by decide +kernel
theorem d_Mo_parts_91 : decode b_Mo_parts 91 = .ok (.iload_n 1, 1) := by decide +kernel
theorem d_Mo_parts_92 : decode b_Mo_parts 92 = .ok (.ireturn, 1) := by decide +kernel
def q_Mo_parts_L2 (kx23 : Mem → Prop) (post : Int32 → Mem → Prop) : Nat → Int32 → Mem → Prop
  | 0, _, _ => False
  | n + 1, x1, M => ((M.1 56 0) ≤ x1 → kx23 M) ∧ (¬ (M.1 56 0) ≤ x1 → vp_in x1 6 ∧ (∀ M1, M1 = wI M 72 x1.toNatClampNeg x1 → q_Mo_parts_L2 kx23 post n (x1 + 1) M1))
set_option maxHeartbeats 4000000 in
theorem s_Mo_parts_L2 {γ : Gm} {κ : Kp} {post : Int32 → Mem → Prop} {kx23 : Mem → Prop} (C : Cx γ κ "NetFormsModel" b_Mo_parts 3 1 (0, 0)) (R : Rt γ (some .int)) (hx23 : ∀ M', kx23 M' → G γ κ 3 (0, 0) (Gq γ κ (pI post)) 23 [(0, .ref (κ.1 + 56))] [] M') : ∀ (n : Nat) (x1 : Int32) (M : Mem), q_Mo_parts_L2 kx23 post n x1 M → G γ κ 3 (0, 0) (Gq γ κ (pI post)) 2 [(0, .ref (κ.1 + 56)), (1, .int x1)] [] M := by
  intro n
  induction n with
  | zero => intro x1 M hq; exact hq.elim
  | succ n ih =>
    intro x1 M hq
    unfold q_Mo_parts_L2 at hq
    refine G_iload_n C 1 d_Mo_parts_2 rfl rfl ?_
    refine G_aload_n C 0 d_Mo_parts_3 rfl rfl ?_
    refine Gg_Mo_points C wd_521 d_Mo_parts_4 ?_
    refine G_icmp_ge C (tgt := 23) d_Mo_parts_7 (by decide) (fun c => ?_) (fun c => ?_)
    · replace hq := hq.1 c
      exact G_sub [0] (by rfl) (hx23 _ hq)
    · replace hq := hq.2 c
      refine G_aload_n C 0 d_Mo_parts_10 rfl rfl ?_
      refine Gg_Mo_partOf C wd_541 d_Mo_parts_11 ?_
      refine G_iload_n C 1 d_Mo_parts_14 rfl rfl ?_
      refine G_iload_n C 1 d_Mo_parts_15 rfl rfl ?_
      refine G_iastore C (k := 72) (by decide) (fun _ _ => rfl) hq.1 d_Mo_parts_16 ?_
      replace hq := hq.2 _ rfl
      refine G_iinc C (v := _ + 1) (lv' := [(1, _), (0, _)]) 1 d_Mo_parts_17 rfl rfl (by decide) rfl ?_
      refine G_goto C (tgt := 2) d_Mo_parts_20 (by decide) ?_
      exact G_sub [1, 0] (by rfl) (ih _ _ hq)
def q_Mo_parts_L25 (kx55 : Mem → Prop) (post : Int32 → Mem → Prop) : Nat → Int32 → Mem → Prop
  | 0, _, _ => False
  | n + 1, x1, M => ((M.1 56 1) ≤ x1 → kx55 M) ∧ (¬ (M.1 56 1) ≤ x1 → vp_in x1 12 ∧ (vp_in x1 12 ∧ (q_Mo_joins (M.1 57 x1.toNatClampNeg) (M.1 58 x1.toNatClampNeg) M (fun M4 => q_Mo_parts_L25 kx55 post n (x1 + 1) M4))))
set_option maxHeartbeats 4000000 in
theorem s_Mo_parts_L25 {γ : Gm} {κ : Kp} {post : Int32 → Mem → Prop} {kx55 : Mem → Prop} (C : Cx γ κ "NetFormsModel" b_Mo_parts 3 1 (0, 0)) (R : Rt γ (some .int)) (hx55 : ∀ M', kx55 M' → G γ κ 3 (0, 0) (Gq γ κ (pI post)) 55 [(0, .ref (κ.1 + 56))] [] M') : ∀ (n : Nat) (x1 : Int32) (M : Mem), q_Mo_parts_L25 kx55 post n x1 M → G γ κ 3 (0, 0) (Gq γ κ (pI post)) 25 [(0, .ref (κ.1 + 56)), (1, .int x1)] [] M := by
  intro n
  induction n with
  | zero => intro x1 M hq; exact hq.elim
  | succ n ih =>
    intro x1 M hq
    unfold q_Mo_parts_L25 at hq
    refine G_iload_n C 1 d_Mo_parts_25 rfl rfl ?_
    refine G_aload_n C 0 d_Mo_parts_26 rfl rfl ?_
    refine Gg_Mo_edges C wd_522 d_Mo_parts_27 ?_
    refine G_icmp_ge C (tgt := 55) d_Mo_parts_30 (by decide) (fun c => ?_) (fun c => ?_)
    · replace hq := hq.1 c
      exact G_sub [0] (by rfl) (hx55 _ hq)
    · replace hq := hq.2 c
      refine G_aload_n C 0 d_Mo_parts_33 rfl rfl ?_
      refine G_aload_n C 0 d_Mo_parts_34 rfl rfl ?_
      refine Gg_Mo_begin C wd_524 d_Mo_parts_35 ?_
      refine G_iload_n C 1 d_Mo_parts_38 rfl rfl ?_
      refine G_iaload C (k := 57) (by decide) (fun _ _ => rfl) hq.1 d_Mo_parts_39 ?_
      replace hq := hq.2
      refine G_aload_n C 0 d_Mo_parts_40 rfl rfl ?_
      refine Gg_Mo_end C wd_525 d_Mo_parts_41 ?_
      refine G_iload_n C 1 d_Mo_parts_44 rfl rfl ?_
      refine G_iaload C (k := 58) (by decide) (fun _ _ => rfl) hq.1 d_Mo_parts_45 ?_
      replace hq := hq.2
      refine G_callV C (s_Mo_joins hq) v_Mo_joins i_Mo_joins z_Mo_joins wd_719 (by decide) rfl (k := 56) (ci := 7) (by decide) rfl rfl rfl (rest := []) (by rfl) (Nat.le_of_ble_eq_true rfl) d_Mo_parts_46 (kv_ (fun M4 hq => ?_))
      refine G_iinc C (v := _ + 1) (lv' := [(1, _), (0, _)]) 1 d_Mo_parts_49 rfl rfl (by decide) rfl ?_
      refine G_goto C (tgt := 25) d_Mo_parts_52 (by decide) ?_
      exact G_sub [1, 0] (by rfl) (ih _ _ hq)
def q_Mo_parts_L59 (kx91 : Int32 → Mem → Prop) (post : Int32 → Mem → Prop) : Nat → Int32 → Int32 → Mem → Prop
  | 0, _, _, _ => False
  | n + 1, x1, x2, M => ((M.1 56 0) ≤ x2 → kx91 x1 M) ∧ (¬ (M.1 56 0) ≤ x2 → vp_in x2 6 ∧ ((¬ (M.1 72 x2.toNatClampNeg) = x2 → q_Mo_parts_L59 kx91 post n (x1 + (0 : Int32)) (x2 + 1) M) ∧ ((M.1 72 x2.toNatClampNeg) = x2 → q_Mo_parts_L59 kx91 post n (x1 + (1 : Int32)) (x2 + 1) M)))
set_option maxHeartbeats 4000000 in
theorem s_Mo_parts_L59 {γ : Gm} {κ : Kp} {post : Int32 → Mem → Prop} {kx91 : Int32 → Mem → Prop} (C : Cx γ κ "NetFormsModel" b_Mo_parts 3 1 (0, 0)) (R : Rt γ (some .int)) (hx91 : ∀ y0 M', kx91 y0 M' → G γ κ 3 (0, 0) (Gq γ κ (pI post)) 91 [(1, .int y0)] [] M') : ∀ (n : Nat) (x1 : Int32) (x2 : Int32) (M : Mem), q_Mo_parts_L59 kx91 post n x1 x2 M → G γ κ 3 (0, 0) (Gq γ κ (pI post)) 59 [(0, .ref (κ.1 + 56)), (1, .int x1), (2, .int x2)] [] M := by
  intro n
  induction n with
  | zero => intro x1 x2 M hq; exact hq.elim
  | succ n ih =>
    intro x1 x2 M hq
    unfold q_Mo_parts_L59 at hq
    refine G_iload_n C 2 d_Mo_parts_59 rfl rfl ?_
    refine G_aload_n C 0 d_Mo_parts_60 rfl rfl ?_
    refine Gg_Mo_points C wd_521 d_Mo_parts_61 ?_
    refine G_icmp_ge C (tgt := 91) d_Mo_parts_64 (by decide) (fun c => ?_) (fun c => ?_)
    · replace hq := hq.1 c
      exact G_sub [1] (by rfl) (hx91 _ _ hq)
    · replace hq := hq.2 c
      refine G_iload_n C 1 d_Mo_parts_67 rfl rfl ?_
      refine G_aload_n C 0 d_Mo_parts_68 rfl rfl ?_
      refine Gg_Mo_partOf C wd_541 d_Mo_parts_69 ?_
      refine G_iload_n C 2 d_Mo_parts_72 rfl rfl ?_
      refine G_iaload C (k := 72) (by decide) (fun _ _ => rfl) hq.1 d_Mo_parts_73 ?_
      replace hq := hq.2
      refine G_iload_n C 2 d_Mo_parts_74 rfl rfl ?_
      refine G_icmp_ne C (tgt := 82) d_Mo_parts_75 (by decide) (fun c => ?_) (fun c => ?_)
      · replace hq := hq.1 c
        refine G_iconst C (v := 0) d_Mo_parts_82 (by decide) ?_
        refine G_iadd C d_Mo_parts_83 ?_
        refine G_istore_n C (lv' := [(1, _), (0, _), (2, _)]) d_Mo_parts_84 rfl (by decide) rfl ?_
        refine G_iinc C (v := _ + 1) (lv' := [(2, _), (1, _), (0, _)]) 2 d_Mo_parts_85 rfl rfl (by decide) rfl ?_
        refine G_goto C (tgt := 59) d_Mo_parts_88 (by decide) ?_
        exact G_sub [2, 1, 0] (by rfl) (ih _ _ _ hq)
      · replace hq := hq.2 c
        refine G_iconst C (v := 1) d_Mo_parts_78 (by decide) ?_
        refine G_goto C (tgt := 83) d_Mo_parts_79 (by decide) ?_
        refine G_iadd C d_Mo_parts_83 ?_
        refine G_istore_n C (lv' := [(1, _), (0, _), (2, _)]) d_Mo_parts_84 rfl (by decide) rfl ?_
        refine G_iinc C (v := _ + 1) (lv' := [(2, _), (1, _), (0, _)]) 2 d_Mo_parts_85 rfl rfl (by decide) rfl ?_
        refine G_goto C (tgt := 59) d_Mo_parts_88 (by decide) ?_
        exact G_sub [2, 1, 0] (by rfl) (ih _ _ _ hq)
def q_Mo_parts (M : Mem) (post : Int32 → Mem → Prop) : Prop := ∃ n2, q_Mo_parts_L2 (fun M3 => ∃ n5, q_Mo_parts_L25 (fun M6 => ∃ n7, q_Mo_parts_L59 (fun x8 M9 => post x8 M9) post n7 (0 : Int32) (0 : Int32) M6) post n5 (0 : Int32) M3) post n2 (0 : Int32) M
set_option maxHeartbeats 4000000 in
theorem s_Mo_parts {l : Launch} {κ : Kp} {M : Mem} {post : Int32 → Mem → Prop} (hq : q_Mo_parts M post) : Ct l κ y_Mo_parts b_Mo_parts 3 (some .int) 1 [.ref (κ.1 + 56)] M (pI post) := by
  refine Ct_of (by decide) (Nat.le_of_ble_eq_true rfl) (fun γ hγ C R => ?_)
  subst hγ
  unfold q_Mo_parts at hq
  show G γ κ 3 (0, 0) (Gq γ κ (pI post)) 0 [(0, .ref (κ.1 + 56))] [] M
  refine G_iconst C (v := 0) d_Mo_parts_0 (by decide) ?_
  refine G_istore_n C (lv' := [(1, _), (0, _)]) d_Mo_parts_1 rfl (by decide) rfl ?_
  obtain ⟨n2, hq⟩ := hq
  refine G_sub [1, 0] (by rfl) (s_Mo_parts_L2 C R ?_ n2 _ _ hq)
  · intro M3 hq
    refine G_iconst C (v := 0) d_Mo_parts_23 (by decide) ?_
    refine G_istore_n C (lv' := [(1, _), (0, _)]) d_Mo_parts_24 rfl (by decide) rfl ?_
    obtain ⟨n5, hq⟩ := hq
    refine G_sub [1, 0] (by rfl) (s_Mo_parts_L25 C R ?_ n5 _ _ hq)
    · intro M6 hq
      refine G_iconst C (v := 0) d_Mo_parts_55 (by decide) ?_
      refine G_istore_n C (lv' := [(1, _), (0, _)]) d_Mo_parts_56 rfl (by decide) rfl ?_
      refine G_iconst C (v := 0) d_Mo_parts_57 (by decide) ?_
      refine G_istore_n C (lv' := [(2, _), (1, _), (0, _)]) d_Mo_parts_58 rfl (by decide) rfl ?_
      obtain ⟨n7, hq⟩ := hq
      refine G_sub [2, 1, 0] (by rfl) (s_Mo_parts_L59 C R ?_ n7 _ _ _ hq)
      · intro x8 M9 hq
        refine G_iload_n C 0 d_Mo_parts_91 rfl rfl ?_
        exact G_iret C R d_Mo_parts_92 ⟨_, rfl, hq⟩
theorem d_Mo_turns_0 : decode b_Mo_turns 0 = .ok (.iconst 0, 1) := by decide +kernel
theorem d_Mo_turns_1 : decode b_Mo_turns 1 = .ok (.istore 4, 2) := by decide +kernel
theorem d_Mo_turns_3 : decode b_Mo_turns 3 = .ok (.aload_n 0, 1) := by decide +kernel
theorem d_Mo_turns_4 : decode b_Mo_turns 4 = .ok (.lconst 1, 1) := by decide +kernel
theorem d_Mo_turns_5 : decode b_Mo_turns 5 = .ok (.putfield 150, 3) := by decide +kernel
theorem d_Mo_turns_8 : decode b_Mo_turns 8 = .ok (.iconst 0, 1) := by decide +kernel
theorem d_Mo_turns_9 : decode b_Mo_turns 9 = .ok (.istore 5, 2) := by decide +kernel
theorem d_Mo_turns_11 : decode b_Mo_turns 11 = .ok (.iload 5, 2) := by decide +kernel
theorem d_Mo_turns_13 : decode b_Mo_turns 13 = .ok (.iload_n 2, 1) := by decide +kernel
theorem d_Mo_turns_14 : decode b_Mo_turns 14 = .ok (.if_icmp .ge 148, 3) := by decide +kernel
theorem d_Mo_turns_17 : decode b_Mo_turns 17 = .ok (.iload 4, 2) := by decide +kernel
theorem d_Mo_turns_19 : decode b_Mo_turns 19 = .ok (.iload_n 1, 1) := by decide +kernel
theorem d_Mo_turns_20 : decode b_Mo_turns 20 = .ok (.if_icmp .ge 142, 3) := by decide +kernel
theorem d_Mo_turns_23 : decode b_Mo_turns 23 = .ok (.iload 4, 2) := by decide +kernel
theorem d_Mo_turns_25 : decode b_Mo_turns 25 = .ok (.istore 6, 2) := by decide +kernel
theorem d_Mo_turns_27 : decode b_Mo_turns 27 = .ok (.iload 6, 2) := by decide +kernel
theorem d_Mo_turns_29 : decode b_Mo_turns 29 = .ok (.iload_n 1, 1) := by decide +kernel
theorem d_Mo_turns_30 : decode b_Mo_turns 30 = .ok (.if_icmp .ge 27, 3) := by decide +kernel
theorem d_Mo_turns_33 : decode b_Mo_turns 33 = .ok (.aload_n 0, 1) := by decide +kernel
theorem d_Mo_turns_34 : decode b_Mo_turns 34 = .ok (.getfield 52, 3) := by decide +kernel
theorem d_Mo_turns_37 : decode b_Mo_turns 37 = .ok (.bipush 13, 2) := by decide +kernel
theorem d_Mo_turns_39 : decode b_Mo_turns 39 = .ok (.iload 6, 2) := by decide +kernel
theorem d_Mo_turns_41 : decode b_Mo_turns 41 = .ok (.imul, 1) := by decide +kernel
theorem d_Mo_turns_42 : decode b_Mo_turns 42 = .ok (.iload 5, 2) := by decide +kernel
theorem d_Mo_turns_44 : decode b_Mo_turns 44 = .ok (.iadd, 1) := by decide +kernel
theorem d_Mo_turns_45 : decode b_Mo_turns 45 = .ok (.laload, 1) := by decide +kernel
theorem d_Mo_turns_46 : decode b_Mo_turns 46 = .ok (.lconst 0, 1) := by decide +kernel
theorem d_Mo_turns_47 : decode b_Mo_turns 47 = .ok (.lcmp, 1) := by decide +kernel
theorem d_Mo_turns_48 : decode b_Mo_turns 48 = .ok (.ifCond .ne 9, 3) := by decide +kernel
theorem d_Mo_turns_51 : decode b_Mo_turns 51 = .ok (.iinc 6 1, 3) := by decide +kernel
theorem d_Mo_turns_54 : decode b_Mo_turns 54 = .ok (.goto (-27), 3) := by decide +kernel
theorem d_Mo_turns_57 : decode b_Mo_turns 57 = .ok (.iload 6, 2) := by decide +kernel
theorem d_Mo_turns_59 : decode b_Mo_turns 59 = .ok (.iload_n 1, 1) := by decide +kernel
theorem d_Mo_turns_60 : decode b_Mo_turns 60 = .ok (.if_icmp .ge 96, 3) := by decide +kernel
theorem d_Mo_turns_63 : decode b_Mo_turns 63 = .ok (.iconst 0, 1) := by decide +kernel
theorem d_Mo_turns_64 : decode b_Mo_turns 64 = .ok (.istore 7, 2) := by decide +kernel
theorem d_Mo_turns_66 : decode b_Mo_turns 66 = .ok (.iload 7, 2) := by decide +kernel
theorem d_Mo_turns_68 : decode b_Mo_turns 68 = .ok (.iload_n 3, 1) := by decide +kernel
theorem d_Mo_turns_69 : decode b_Mo_turns 69 = .ok (.if_icmp .ge 65, 3) := by decide +kernel
theorem d_Mo_turns_72 : decode b_Mo_turns 72 = .ok (.aload_n 0, 1) := by decide +kernel
theorem d_Mo_turns_73 : decode b_Mo_turns 73 = .ok (.getfield 52, 3) := by decide +kernel
theorem d_Mo_turns_76 : decode b_Mo_turns 76 = .ok (.bipush 13, 2) := by decide +kernel
theorem d_Mo_turns_78 : decode b_Mo_turns 78 = .ok (.iload 6, 2) := by decide +kernel
theorem d_Mo_turns_80 : decode b_Mo_turns 80 = .ok (.imul, 1) := by decide +kernel
theorem d_Mo_turns_81 : decode b_Mo_turns 81 = .ok (.iload 7, 2) := by decide +kernel
theorem d_Mo_turns_83 : decode b_Mo_turns 83 = .ok (.iadd, 1) := by decide +kernel
theorem d_Mo_turns_84 : decode b_Mo_turns 84 = .ok (.laload, 1) := by decide +kernel
theorem d_Mo_turns_85 : decode b_Mo_turns 85 = .ok (.lstore 8, 2) := by decide +kernel
theorem d_Mo_turns_87 : decode b_Mo_turns 87 = .ok (.aload_n 0, 1) := by decide +kernel
theorem d_Mo_turns_88 : decode b_Mo_turns 88 = .ok (.getfield 52, 3) := by decide +kernel
theorem d_Mo_turns_91 : decode b_Mo_turns 91 = .ok (.bipush 13, 2) := by decide +kernel
theorem d_Mo_turns_93 : decode b_Mo_turns 93 = .ok (.iload 6, 2) := by decide +kernel
theorem d_Mo_turns_95 : decode b_Mo_turns 95 = .ok (.imul, 1) := by decide +kernel
theorem d_Mo_turns_96 : decode b_Mo_turns 96 = .ok (.iload 7, 2) := by decide +kernel
theorem d_Mo_turns_98 : decode b_Mo_turns 98 = .ok (.iadd, 1) := by decide +kernel
theorem d_Mo_turns_99 : decode b_Mo_turns 99 = .ok (.aload_n 0, 1) := by decide +kernel
theorem d_Mo_turns_100 : decode b_Mo_turns 100 = .ok (.getfield 52, 3) := by decide +kernel
theorem d_Mo_turns_103 : decode b_Mo_turns 103 = .ok (.bipush 13, 2) := by decide +kernel
theorem d_Mo_turns_105 : decode b_Mo_turns 105 = .ok (.iload 4, 2) := by decide +kernel
theorem d_Mo_turns_107 : decode b_Mo_turns 107 = .ok (.imul, 1) := by decide +kernel
theorem d_Mo_turns_108 : decode b_Mo_turns 108 = .ok (.iload 7, 2) := by decide +kernel
theorem d_Mo_turns_110 : decode b_Mo_turns 110 = .ok (.iadd, 1) := by decide +kernel
theorem d_Mo_turns_111 : decode b_Mo_turns 111 = .ok (.laload, 1) := by decide +kernel
theorem d_Mo_turns_112 : decode b_Mo_turns 112 = .ok (.lastore, 1) := by decide +kernel
theorem d_Mo_turns_113 : decode b_Mo_turns 113 = .ok (.aload_n 0, 1) := by decide +kernel
theorem d_Mo_turns_114 : decode b_Mo_turns 114 = .ok (.getfield 52, 3) := by decide +kernel
theorem d_Mo_turns_117 : decode b_Mo_turns 117 = .ok (.bipush 13, 2) := by decide +kernel
theorem d_Mo_turns_119 : decode b_Mo_turns 119 = .ok (.iload 4, 2) := by decide +kernel
theorem d_Mo_turns_121 : decode b_Mo_turns 121 = .ok (.imul, 1) := by decide +kernel
theorem d_Mo_turns_122 : decode b_Mo_turns 122 = .ok (.iload 7, 2) := by decide +kernel
theorem d_Mo_turns_124 : decode b_Mo_turns 124 = .ok (.iadd, 1) := by decide +kernel
theorem d_Mo_turns_125 : decode b_Mo_turns 125 = .ok (.lload 8, 2) := by decide +kernel
theorem d_Mo_turns_127 : decode b_Mo_turns 127 = .ok (.lastore, 1) := by decide +kernel
theorem d_Mo_turns_128 : decode b_Mo_turns 128 = .ok (.iinc 7 1, 3) := by decide +kernel
theorem d_Mo_turns_131 : decode b_Mo_turns 131 = .ok (.goto (-65), 3) := by decide +kernel
theorem d_Mo_turns_134 : decode b_Mo_turns 134 = .ok (.aload_n 0, 1) := by decide +kernel
theorem d_Mo_turns_135 : decode b_Mo_turns 135 = .ok (.iload 4, 2) := by decide +kernel
theorem d_Mo_turns_137 : decode b_Mo_turns 137 = .ok (.iload 5, 2) := by decide +kernel
theorem d_Mo_turns_139 : decode b_Mo_turns 139 = .ok (.iload_n 1, 1) := by decide +kernel
theorem d_Mo_turns_140 : decode b_Mo_turns 140 = .ok (.iload_n 3, 1) := by decide +kernel
theorem d_Mo_turns_141 : decode b_Mo_turns 141 = .ok (.invokevirtual 154, 3) := by decide +kernel
theorem d_Mo_turns_144 : decode b_Mo_turns 144 = .ok (.aload_n 0, 1) := by decide +kernel
theorem d_Mo_turns_145 : decode b_Mo_turns 145 = .ok (.getfield 55, 3) := by decide +kernel
theorem d_Mo_turns_148 : decode b_Mo_turns 148 = .ok (.iload 4, 2) := by decide +kernel
theorem d_Mo_turns_150 : decode b_Mo_turns 150 = .ok (.iload 5, 2) := by decide +kernel
theorem d_Mo_turns_152 : decode b_Mo_turns 152 = .ok (.iastore, 1) := by decide +kernel
theorem d_Mo_turns_153 : decode b_Mo_turns 153 = .ok (.iinc 4 1, 3) := by decide +kernel
theorem d_Mo_turns_156 : decode b_Mo_turns 156 = .ok (.iinc 5 1, 3) := by decide +kernel
theorem d_Mo_turns_159 : decode b_Mo_turns 159 = .ok (.goto (-148), 3) := by decide +kernel
theorem d_Mo_turns_162 : decode b_Mo_turns 162 = .ok (.iload 4, 2) := by decide +kernel
theorem d_Mo_turns_164 : decode b_Mo_turns 164 = .ok (.ireturn, 1) := by decide +kernel
def q_Mo_turns_L27 (kx57 : Int32 → Int32 → Int32 → Int32 → Int32 → Int32 → Mem → Prop) (post : Int32 → Mem → Prop) : Nat → Int32 → Int32 → Int32 → Int32 → Int32 → Int32 → Mem → Prop
  | 0, _, _, _, _, _, _, _ => False
  | n + 1, x1, x2, x3, x4, x5, x6, M => (x1 ≤ x6 → kx57 x1 x2 x3 x4 x5 x6 M) ∧ (¬ x1 ≤ x6 → vp_in (((13 : Int32) * x6) + x5) 156 ∧ ((¬ (M.2 69 (((13 : Int32) * x6) + x5).toNatClampNeg) = (0 : Int64) → kx57 x1 x2 x3 x4 x5 x6 M) ∧ ((M.2 69 (((13 : Int32) * x6) + x5).toNatClampNeg) = (0 : Int64) → q_Mo_turns_L27 kx57 post n x1 x2 x3 x4 x5 (x6 + 1) M)))
set_option maxHeartbeats 4000000 in
theorem s_Mo_turns_L27 {γ : Gm} {κ : Kp} {post : Int32 → Mem → Prop} {kx57 : Int32 → Int32 → Int32 → Int32 → Int32 → Int32 → Mem → Prop} (C : Cx γ κ "NetFormsModel" b_Mo_turns 10 1 (0, 0)) (R : Rt γ (some .int)) (hx57 : ∀ y1 y2 y3 y4 y5 y6 M', kx57 y1 y2 y3 y4 y5 y6 M' → G γ κ 10 (0, 0) (Gq γ κ (pI post)) 57 [(0, .ref (κ.1 + 56)), (1, .int y1), (2, .int y2), (3, .int y3), (4, .int y4), (5, .int y5), (6, .int y6)] [] M') : ∀ (n : Nat) (x1 : Int32) (x2 : Int32) (x3 : Int32) (x4 : Int32) (x5 : Int32) (x6 : Int32) (M : Mem), q_Mo_turns_L27 kx57 post n x1 x2 x3 x4 x5 x6 M → G γ κ 10 (0, 0) (Gq γ κ (pI post)) 27 [(0, .ref (κ.1 + 56)), (1, .int x1), (2, .int x2), (3, .int x3), (4, .int x4), (5, .int x5), (6, .int x6)] [] M := by
  intro n
  induction n with
  | zero => intro x1 x2 x3 x4 x5 x6 M hq; exact hq.elim
  | succ n ih =>
    intro x1 x2 x3 x4 x5 x6 M hq
    unfold q_Mo_turns_L27 at hq
    refine G_iload C 6 d_Mo_turns_27 rfl ?_
    refine G_iload_n C 1 d_Mo_turns_29 rfl rfl ?_
    refine G_icmp_ge C (tgt := 57) d_Mo_turns_30 (by decide) (fun c => ?_) (fun c => ?_)
    · replace hq := hq.1 c
      exact G_sub [0, 1, 2, 3, 4, 5, 6] (by rfl) (hx57 _ _ _ _ _ _ _ hq)
    · replace hq := hq.2 c
      refine G_aload_n C 0 d_Mo_turns_33 rfl rfl ?_
      refine Gg_Mo_table C wd_537 d_Mo_turns_34 ?_
      refine G_bipush C (v := 13) d_Mo_turns_37 (by decide) ?_
      refine G_iload C 6 d_Mo_turns_39 rfl ?_
      refine G_imul C d_Mo_turns_41 ?_
      refine G_iload C 5 d_Mo_turns_42 rfl ?_
      refine G_iadd C d_Mo_turns_44 ?_
      refine G_laload C (k := 69) (by decide) (fun _ _ => rfl) hq.1 d_Mo_turns_45 ?_
      replace hq := hq.2
      refine G_lconst C (v := 0) d_Mo_turns_46 (by decide) ?_
      refine G_lcmp_ne C (tgt := 57) (pc1 := 48) d_Mo_turns_47 rfl d_Mo_turns_48 (by decide) (fun c => ?_) (fun c => ?_)
      · replace hq := hq.1 c
        exact G_sub [0, 1, 2, 3, 4, 5, 6] (by rfl) (hx57 _ _ _ _ _ _ _ hq)
      · replace hq := hq.2 c
        refine G_iinc C (v := _ + 1) (lv' := [(6, _), (0, _), (1, _), (2, _), (3, _), (4, _), (5, _)]) 6 d_Mo_turns_51 rfl rfl (by decide) rfl ?_
        refine G_goto C (tgt := 27) d_Mo_turns_54 (by decide) ?_
        exact G_sub [1, 2, 3, 4, 5, 6, 0] (by rfl) (ih _ _ _ _ _ _ _ hq)
def q_Mo_turns_L66 (kx134 : Int32 → Int32 → Int32 → Int32 → Int32 → Mem → Prop) (post : Int32 → Mem → Prop) : Nat → Int32 → Int32 → Int32 → Int32 → Int32 → Int32 → Int32 → Mem → Prop
  | 0, _, _, _, _, _, _, _, _ => False
  | n + 1, x1, x2, x3, x4, x5, x6, x7, M => (x3 ≤ x7 → kx134 x1 x2 x3 x4 x5 M) ∧ (¬ x3 ≤ x7 → vp_in (((13 : Int32) * x6) + x7) 156 ∧ (vp_in (((13 : Int32) * x4) + x7) 156 ∧ (vp_in (((13 : Int32) * x6) + x7) 156 ∧ (∀ M10, M10 = wJ M 69 (((13 : Int32) * x6) + x7).toNatClampNeg (M.2 69 (((13 : Int32) * x4) + x7).toNatClampNeg) → vp_in (((13 : Int32) * x4) + x7) 156 ∧ (∀ M11, M11 = wJ M10 69 (((13 : Int32) * x4) + x7).toNatClampNeg (M.2 69 (((13 : Int32) * x6) + x7).toNatClampNeg) → q_Mo_turns_L66 kx134 post n x1 x2 x3 x4 x5 x6 (x7 + 1) M11)))))
set_option maxHeartbeats 4000000 in
theorem s_Mo_turns_L66 {γ : Gm} {κ : Kp} {post : Int32 → Mem → Prop} {kx134 : Int32 → Int32 → Int32 → Int32 → Int32 → Mem → Prop} (C : Cx γ κ "NetFormsModel" b_Mo_turns 10 1 (0, 0)) (R : Rt γ (some .int)) (hx134 : ∀ y1 y2 y3 y4 y5 M', kx134 y1 y2 y3 y4 y5 M' → G γ κ 10 (0, 0) (Gq γ κ (pI post)) 134 [(0, .ref (κ.1 + 56)), (1, .int y1), (2, .int y2), (3, .int y3), (4, .int y4), (5, .int y5)] [] M') : ∀ (n : Nat) (x1 : Int32) (x2 : Int32) (x3 : Int32) (x4 : Int32) (x5 : Int32) (x6 : Int32) (x7 : Int32) (M : Mem), q_Mo_turns_L66 kx134 post n x1 x2 x3 x4 x5 x6 x7 M → G γ κ 10 (0, 0) (Gq γ κ (pI post)) 66 [(0, .ref (κ.1 + 56)), (1, .int x1), (2, .int x2), (3, .int x3), (4, .int x4), (5, .int x5), (6, .int x6), (7, .int x7)] [] M := by
  intro n
  induction n with
  | zero => intro x1 x2 x3 x4 x5 x6 x7 M hq; exact hq.elim
  | succ n ih =>
    intro x1 x2 x3 x4 x5 x6 x7 M hq
    unfold q_Mo_turns_L66 at hq
    refine G_iload C 7 d_Mo_turns_66 rfl ?_
    refine G_iload_n C 3 d_Mo_turns_68 rfl rfl ?_
    refine G_icmp_ge C (tgt := 134) d_Mo_turns_69 (by decide) (fun c => ?_) (fun c => ?_)
    · replace hq := hq.1 c
      exact G_sub [0, 1, 2, 3, 4, 5] (by rfl) (hx134 _ _ _ _ _ _ hq)
    · replace hq := hq.2 c
      refine G_aload_n C 0 d_Mo_turns_72 rfl rfl ?_
      refine Gg_Mo_table C wd_537 d_Mo_turns_73 ?_
      refine G_bipush C (v := 13) d_Mo_turns_76 (by decide) ?_
      refine G_iload C 6 d_Mo_turns_78 rfl ?_
      refine G_imul C d_Mo_turns_80 ?_
      refine G_iload C 7 d_Mo_turns_81 rfl ?_
      refine G_iadd C d_Mo_turns_83 ?_
      refine G_laload C (k := 69) (by decide) (fun _ _ => rfl) hq.1 d_Mo_turns_84 ?_
      replace hq := hq.2
      refine G_lstore C (lv' := [(8, _), (0, _), (1, _), (2, _), (3, _), (4, _), (5, _), (6, _), (7, _)]) d_Mo_turns_85 (by decide) rfl ?_
      refine G_aload_n C 1 d_Mo_turns_87 rfl rfl ?_
      refine Gg_Mo_table C wd_537 d_Mo_turns_88 ?_
      refine G_bipush C (v := 13) d_Mo_turns_91 (by decide) ?_
      refine G_iload C 7 d_Mo_turns_93 rfl ?_
      refine G_imul C d_Mo_turns_95 ?_
      refine G_iload C 8 d_Mo_turns_96 rfl ?_
      refine G_iadd C d_Mo_turns_98 ?_
      refine G_aload_n C 1 d_Mo_turns_99 rfl rfl ?_
      refine Gg_Mo_table C wd_537 d_Mo_turns_100 ?_
      refine G_bipush C (v := 13) d_Mo_turns_103 (by decide) ?_
      refine G_iload C 5 d_Mo_turns_105 rfl ?_
      refine G_imul C d_Mo_turns_107 ?_
      refine G_iload C 8 d_Mo_turns_108 rfl ?_
      refine G_iadd C d_Mo_turns_110 ?_
      refine G_laload C (k := 69) (by decide) (fun _ _ => rfl) hq.1 d_Mo_turns_111 ?_
      replace hq := hq.2
      refine G_lastore C (k := 69) (by decide) (fun _ _ => rfl) hq.1 d_Mo_turns_112 ?_
      replace hq := hq.2 _ rfl
      refine G_aload_n C 1 d_Mo_turns_113 rfl rfl ?_
      refine Gg_Mo_table C wd_537 d_Mo_turns_114 ?_
      refine G_bipush C (v := 13) d_Mo_turns_117 (by decide) ?_
      refine G_iload C 5 d_Mo_turns_119 rfl ?_
      refine G_imul C d_Mo_turns_121 ?_
      refine G_iload C 8 d_Mo_turns_122 rfl ?_
      refine G_iadd C d_Mo_turns_124 ?_
      refine G_lload C 0 d_Mo_turns_125 rfl ?_
      refine G_lastore C (k := 69) (by decide) (fun _ _ => rfl) hq.1 d_Mo_turns_127 ?_
      replace hq := hq.2 _ rfl
      refine G_iinc C (v := _ + 1) (lv' := [(7, _), (8, _), (0, _), (1, _), (2, _), (3, _), (4, _), (5, _), (6, _)]) 8 d_Mo_turns_128 rfl rfl (by decide) rfl ?_
      refine G_goto C (tgt := 66) d_Mo_turns_131 (by decide) ?_
      exact G_sub [2, 3, 4, 5, 6, 7, 8, 0] (by rfl) (ih _ _ _ _ _ _ _ _ hq)
def q_Mo_turns_L11 (kx162 : Int32 → Mem → Prop) (post : Int32 → Mem → Prop) : Nat → Int32 → Int32 → Int32 → Int32 → Int32 → Mem → Prop
  | 0, _, _, _, _, _, _ => False
  | n + 1, x1, x2, x3, x4, x5, M => (x2 ≤ x5 → kx162 x4 M) ∧ (¬ x2 ≤ x5 → (x1 ≤ x4 → kx162 x4 M) ∧ (¬ x1 ≤ x4 → ∃ n2, q_Mo_turns_L27 (fun x3 x4 x5 x6 x7 x8 M9 => (x3 ≤ x8 → q_Mo_turns_L11 kx162 post n x3 x4 x5 x6 (x7 + 1) M9) ∧ (¬ x3 ≤ x8 → ∃ n12, q_Mo_turns_L66 (fun x13 x14 x15 x16 x17 M18 => q_Mo_turn x16 x17 x13 x15 M18 (fun M19 => vp_in x16 12 ∧ (∀ M20, M20 = wI M19 70 x16.toNatClampNeg x17 → q_Mo_turns_L11 kx162 post n x13 x14 x15 (x16 + 1) (x17 + 1) M20))) post n12 x3 x4 x5 x6 x7 x8 (0 : Int32) M9)) post n2 x1 x2 x3 x4 x5 x4 M))
set_option maxHeartbeats 4000000 in
theorem s_Mo_turns_L11 {γ : Gm} {κ : Kp} {post : Int32 → Mem → Prop} {kx162 : Int32 → Mem → Prop} (C : Cx γ κ "NetFormsModel" b_Mo_turns 10 1 (0, 0)) (R : Rt γ (some .int)) (hx162 : ∀ y0 M', kx162 y0 M' → G γ κ 10 (0, 0) (Gq γ κ (pI post)) 162 [(4, .int y0)] [] M') : ∀ (n : Nat) (x1 : Int32) (x2 : Int32) (x3 : Int32) (x4 : Int32) (x5 : Int32) (M : Mem), q_Mo_turns_L11 kx162 post n x1 x2 x3 x4 x5 M → G γ κ 10 (0, 0) (Gq γ κ (pI post)) 11 [(0, .ref (κ.1 + 56)), (1, .int x1), (2, .int x2), (3, .int x3), (4, .int x4), (5, .int x5)] [] M := by
  intro n
  induction n with
  | zero => intro x1 x2 x3 x4 x5 M hq; exact hq.elim
  | succ n ih =>
    intro x1 x2 x3 x4 x5 M hq
    unfold q_Mo_turns_L11 at hq
    refine G_iload C 5 d_Mo_turns_11 rfl ?_
    refine G_iload_n C 2 d_Mo_turns_13 rfl rfl ?_
    refine G_icmp_ge C (tgt := 162) d_Mo_turns_14 (by decide) (fun c => ?_) (fun c => ?_)
    · replace hq := hq.1 c
      exact G_sub [4] (by rfl) (hx162 _ _ hq)
    · replace hq := hq.2 c
      refine G_iload C 4 d_Mo_turns_17 rfl ?_
      refine G_iload_n C 1 d_Mo_turns_19 rfl rfl ?_
      refine G_icmp_ge C (tgt := 162) d_Mo_turns_20 (by decide) (fun c => ?_) (fun c => ?_)
      · replace hq := hq.1 c
        exact G_sub [4] (by rfl) (hx162 _ _ hq)
      · replace hq := hq.2 c
        refine G_iload C 4 d_Mo_turns_23 rfl ?_
        refine G_istore C (lv' := [(6, _), (0, _), (1, _), (2, _), (3, _), (4, _), (5, _)]) d_Mo_turns_25 (by decide) rfl ?_
        obtain ⟨n2, hq⟩ := hq
        refine G_sub [1, 2, 3, 4, 5, 6, 0] (by rfl) (s_Mo_turns_L27 C R ?_ n2 _ _ _ _ _ _ _ hq)
        · intro x3 x4 x5 x6 x7 x8 M9 hq
          refine G_iload C 6 d_Mo_turns_57 rfl ?_
          refine G_iload_n C 1 d_Mo_turns_59 rfl rfl ?_
          refine G_icmp_ge C (tgt := 156) d_Mo_turns_60 (by decide) (fun c => ?_) (fun c => ?_)
          · replace hq := hq.1 c
            refine G_iinc C (v := _ + 1) (lv' := [(5, _), (0, _), (1, _), (2, _), (3, _), (4, _), (6, _)]) 5 d_Mo_turns_156 rfl rfl (by decide) rfl ?_
            refine G_goto C (tgt := 11) d_Mo_turns_159 (by decide) ?_
            exact G_sub [1, 2, 3, 4, 5, 0] (by rfl) (ih _ _ _ _ _ _ hq)
          · replace hq := hq.2 c
            refine G_iconst C (v := 0) d_Mo_turns_63 (by decide) ?_
            refine G_istore C (lv' := [(7, _), (0, _), (1, _), (2, _), (3, _), (4, _), (5, _), (6, _)]) d_Mo_turns_64 (by decide) rfl ?_
            obtain ⟨n12, hq⟩ := hq
            refine G_sub [1, 2, 3, 4, 5, 6, 7, 0] (by rfl) (s_Mo_turns_L66 C R ?_ n12 _ _ _ _ _ _ _ _ hq)
            · intro x13 x14 x15 x16 x17 M18 hq
              refine G_aload_n C 0 d_Mo_turns_134 rfl rfl ?_
              refine G_iload C 4 d_Mo_turns_135 rfl ?_
              refine G_iload C 5 d_Mo_turns_137 rfl ?_
              refine G_iload_n C 1 d_Mo_turns_139 rfl rfl ?_
              refine G_iload_n C 3 d_Mo_turns_140 rfl rfl ?_
              refine G_callV C (s_Mo_turn hq) v_Mo_turn i_Mo_turn z_Mo_turn wd_740 (by decide) rfl (k := 56) (ci := 7) (by decide) rfl rfl rfl (rest := []) (by rfl) (Nat.le_of_ble_eq_true rfl) d_Mo_turns_141 (kv_ (fun M19 hq => ?_))
              refine G_aload_n C 0 d_Mo_turns_144 rfl rfl ?_
              refine Gg_Mo_placeOf C wd_538 d_Mo_turns_145 ?_
              refine G_iload C 4 d_Mo_turns_148 rfl ?_
              refine G_iload C 5 d_Mo_turns_150 rfl ?_
              refine G_iastore C (k := 70) (by decide) (fun _ _ => rfl) hq.1 d_Mo_turns_152 ?_
              replace hq := hq.2 _ rfl
              refine G_iinc C (v := _ + 1) (lv' := [(4, _), (0, _), (1, _), (2, _), (3, _), (5, _)]) 4 d_Mo_turns_153 rfl rfl (by decide) rfl ?_
              refine G_iinc C (v := _ + 1) (lv' := [(5, _), (4, _), (0, _), (1, _), (2, _), (3, _)]) 5 d_Mo_turns_156 rfl rfl (by decide) rfl ?_
              refine G_goto C (tgt := 11) d_Mo_turns_159 (by decide) ?_
              exact G_sub [2, 3, 4, 5, 1, 0] (by rfl) (ih _ _ _ _ _ _ hq)
def q_Mo_turns (a1 : Int32) (a2 : Int32) (a3 : Int32) (M : Mem) (post : Int32 → Mem → Prop) : Prop := ∀ M1, M1 = wJ M 56 18 (1 : Int64) → ∃ n21, q_Mo_turns_L11 (fun x22 M23 => post x22 M23) post n21 a1 a2 a3 (0 : Int32) (0 : Int32) M1
set_option maxHeartbeats 4000000 in
theorem s_Mo_turns {l : Launch} {κ : Kp} {a1 : Int32} {a2 : Int32} {a3 : Int32} {M : Mem} {post : Int32 → Mem → Prop} (hq : q_Mo_turns a1 a2 a3 M post) : Ct l κ y_Mo_turns b_Mo_turns 10 (some .int) 1 [.ref (κ.1 + 56), .int a1, .int a2, .int a3] M (pI post) := by
  refine Ct_of (by decide) (Nat.le_of_ble_eq_true rfl) (fun γ hγ C R => ?_)
  subst hγ
  unfold q_Mo_turns at hq
  show G γ κ 10 (0, 0) (Gq γ κ (pI post)) 0 [(0, .ref (κ.1 + 56)), (1, .int a1), (2, .int a2), (3, .int a3)] [] M
  refine G_iconst C (v := 0) d_Mo_turns_0 (by decide) ?_
  refine G_istore C (lv' := [(4, _), (0, _), (1, _), (2, _), (3, _)]) d_Mo_turns_1 (by decide) rfl ?_
  refine G_aload_n C 1 d_Mo_turns_3 rfl rfl ?_
  refine G_lconst C (v := 1) d_Mo_turns_4 (by decide) ?_
  refine Gp_Mo_shared C wd_539 d_Mo_turns_5 ?_
  replace hq := hq _ rfl
  refine G_iconst C (v := 0) d_Mo_turns_8 (by decide) ?_
  refine G_istore C (lv' := [(5, _), (4, _), (0, _), (1, _), (2, _), (3, _)]) d_Mo_turns_9 (by decide) rfl ?_
  obtain ⟨n21, hq⟩ := hq
  refine G_sub [2, 3, 4, 5, 1, 0] (by rfl) (s_Mo_turns_L11 C R ?_ n21 _ _ _ _ _ _ hq)
  · intro x22 M23 hq
    refine G_iload C 0 d_Mo_turns_162 rfl ?_
    exact G_iret C R d_Mo_turns_164 ⟨_, rfl, hq⟩
theorem d_Mo_lowest_0 : decode b_Mo_lowest 0 = .ok (.lload_n 0, 1) := by decide +kernel
theorem d_Mo_lowest_1 : decode b_Mo_lowest 1 = .ok (.lload_n 2, 1) := by decide +kernel
theorem d_Mo_lowest_2 : decode b_Mo_lowest 2 = .ok (.invokestatic 192, 3) := by decide +kernel
theorem d_Mo_lowest_5 : decode b_Mo_lowest 5 = .ok (.lstore 5, 2) := by decide +kernel
theorem d_Mo_lowest_7 : decode b_Mo_lowest 7 = .ok (.lload_n 2, 1) := by decide +kernel
theorem d_Mo_lowest_8 : decode b_Mo_lowest 8 = .ok (.lconst 0, 1) := by decide +kernel
theorem d_Mo_lowest_9 : decode b_Mo_lowest 9 = .ok (.lcmp, 1) := by decide +kernel
theorem d_Mo_lowest_10 : decode b_Mo_lowest 10 = .ok (.ifCond .ge 9, 3) := by decide +kernel
theorem d_Mo_lowest_13 : decode b_Mo_lowest 13 = .ok (.lload 5, 2) := by decide +kernel
theorem d_Mo_lowest_15 : decode b_Mo_lowest 15 = .ok (.lneg, 1) := by decide +kernel
theorem d_Mo_lowest_16 : decode b_Mo_lowest 16 = .ok (.goto 5, 3) := by decide +kernel
theorem d_Mo_lowest_19 : decode b_Mo_lowest 19 = .ok (.lload 5, 2) := by decide +kernel
theorem d_Mo_lowest_21 : decode b_Mo_lowest 21 = .ok (.lstore 5, 2) := by decide +kernel
theorem d_Mo_lowest_23 : decode b_Mo_lowest 23 = .ok (.iload 4, 2) := by decide +kernel
theorem d_Mo_lowest_25 : decode b_Mo_lowest 25 = .ok (.ifCond .ne 10, 3) := by decide +kernel
theorem d_Mo_lowest_28 : decode b_Mo_lowest 28 = .ok (.lload_n 0, 1) := by decide +kernel
theorem d_Mo_lowest_29 : decode b_Mo_lowest 29 = .ok (.lload 5, 2) := by decide +kernel
theorem d_Mo_lowest_31 : decode b_Mo_lowest 31 = .ok (.ldiv, 1) := by decide +kernel
theorem d_Mo_lowest_32 : decode b_Mo_lowest 32 = .ok (.goto 7, 3) := by decide +kernel
theorem d_Mo_lowest_35 : decode b_Mo_lowest 35 = .ok (.lload_n 2, 1) := by decide +kernel
theorem d_Mo_lowest_36 : decode b_Mo_lowest 36 = .ok (.lload 5, 2) := by decide +kernel
theorem d_Mo_lowest_38 : decode b_Mo_lowest 38 = .ok (.ldiv, 1) := by decide +kernel
theorem d_Mo_lowest_39 : decode b_Mo_lowest 39 = .ok (.lreturn, 1) := by decide +kernel
def q_Mo_lowest (a0 : Int64) (a2 : Int64) (a4 : Int32) (M : Mem) (post : Int64 → Mem → Prop) : Prop := q_Mo_divisor a0 a2 M (fun r2 M1 => ((0 : Int64) ≤ a2 → (¬ a4 = 0 → ¬ r2 = 0 ∧ (post (a2 / r2) M1)) ∧ (a4 = 0 → ¬ r2 = 0 ∧ (post (a0 / r2) M1))) ∧ (¬ (0 : Int64) ≤ a2 → (¬ a4 = 0 → ¬ (-r2) = 0 ∧ (post (a2 / (-r2)) M1)) ∧ (a4 = 0 → ¬ (-r2) = 0 ∧ (post (a0 / (-r2)) M1))))
set_option maxHeartbeats 4000000 in
theorem s_Mo_lowest {l : Launch} {κ : Kp} {a0 : Int64} {a2 : Int64} {a4 : Int32} {M : Mem} {post : Int64 → Mem → Prop} (hq : q_Mo_lowest a0 a2 a4 M post) : Ct l κ y_Mo_lowest b_Mo_lowest 7 (some .long) 1 [.long a0, .long a2, .int a4] M (pJ post) := by
  refine Ct_of (by decide) (Nat.le_of_ble_eq_true rfl) (fun γ hγ C R => ?_)
  subst hγ
  unfold q_Mo_lowest at hq
  show G γ κ 7 (0, 0) (Gq γ κ (pJ post)) 0 [(0, .long a0), (2, .long a2), (4, .int a4)] [] M
  refine G_lload_n C 0 d_Mo_lowest_0 rfl rfl ?_
  refine G_lload_n C 1 d_Mo_lowest_1 rfl rfl ?_
  refine G_callS C (s_Mo_divisor hq) v_Mo_divisor z_Mo_divisor wd_768 (by decide) rfl (rest := []) (by rfl) (Nat.le_of_ble_eq_true rfl) d_Mo_lowest_2 (kj_ (fun r2 M1 hq => ?_))
  refine G_lstore C (lv' := [(5, _), (0, _), (2, _), (4, _)]) d_Mo_lowest_5 (by decide) rfl ?_
  refine G_lload_n C 2 d_Mo_lowest_7 rfl rfl ?_
  refine G_lconst C (v := 0) d_Mo_lowest_8 (by decide) ?_
  refine G_lcmp_ge C (tgt := 19) (pc1 := 10) d_Mo_lowest_9 rfl d_Mo_lowest_10 (by decide) (fun c => ?_) (fun c => ?_)
  · replace hq := hq.1 c
    refine G_lload C 0 d_Mo_lowest_19 rfl ?_
    refine G_lstore C (lv' := [(5, _), (0, _), (2, _), (4, _)]) d_Mo_lowest_21 (by decide) rfl ?_
    refine G_iload C 3 d_Mo_lowest_23 rfl ?_
    refine G_if_ne C (tgt := 35) d_Mo_lowest_25 (by decide) (fun c => ?_) (fun c => ?_)
    · replace hq := hq.1 c
      refine G_lload_n C 2 d_Mo_lowest_35 rfl rfl ?_
      refine G_lload C 0 d_Mo_lowest_36 rfl ?_
      refine G_ldiv C d_Mo_lowest_38 hq.1 ?_
      replace hq := hq.2
      exact G_lret C R d_Mo_lowest_39 ⟨_, rfl, hq⟩
    · replace hq := hq.2 c
      refine G_lload_n C 1 d_Mo_lowest_28 rfl rfl ?_
      refine G_lload C 0 d_Mo_lowest_29 rfl ?_
      refine G_ldiv C d_Mo_lowest_31 hq.1 ?_
      replace hq := hq.2
      refine G_goto C (tgt := 39) d_Mo_lowest_32 (by decide) ?_
      exact G_lret C R d_Mo_lowest_39 ⟨_, rfl, hq⟩
  · replace hq := hq.2 c
    refine G_lload C 0 d_Mo_lowest_13 rfl ?_
    refine G_lneg C d_Mo_lowest_15 ?_
    refine G_goto C (tgt := 21) d_Mo_lowest_16 (by decide) ?_
    refine G_lstore C (lv' := [(5, _), (0, _), (2, _), (4, _)]) d_Mo_lowest_21 (by decide) rfl ?_
    refine G_iload C 3 d_Mo_lowest_23 rfl ?_
    refine G_if_ne C (tgt := 35) d_Mo_lowest_25 (by decide) (fun c => ?_) (fun c => ?_)
    · replace hq := hq.1 c
      refine G_lload_n C 2 d_Mo_lowest_35 rfl rfl ?_
      refine G_lload C 0 d_Mo_lowest_36 rfl ?_
      refine G_ldiv C d_Mo_lowest_38 hq.1 ?_
      replace hq := hq.2
      exact G_lret C R d_Mo_lowest_39 ⟨_, rfl, hq⟩
    · replace hq := hq.2 c
      refine G_lload_n C 1 d_Mo_lowest_28 rfl rfl ?_
      refine G_lload C 0 d_Mo_lowest_29 rfl ?_
      refine G_ldiv C d_Mo_lowest_31 hq.1 ?_
      replace hq := hq.2
      refine G_goto C (tgt := 39) d_Mo_lowest_32 (by decide) ?_
      exact G_lret C R d_Mo_lowest_39 ⟨_, rfl, hq⟩
