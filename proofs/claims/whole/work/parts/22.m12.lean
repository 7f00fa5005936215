theorem d_Mo_get_0 : decode b_Mo_get 0 = .ok (.aload_n 0, 1) := by decide +kernel
theorem d_Mo_get_1 : decode b_Mo_get 1 = .ok (.iload_n 1, 1) := by decide +kernel
theorem d_Mo_get_2 : decode b_Mo_get 2 = .ok (.iload_n 2, 1) := by decide +kernel
theorem d_Mo_get_3 : decode b_Mo_get 3 = .ok (.invokevirtual 111, 3) := by decide +kernel
theorem d_Mo_get_6 : decode b_Mo_get 6 = .ok (.ifCond .eq 17, 3) := by decide +kernel
theorem d_Mo_get_9 : decode b_Mo_get 9 = .ok (.aload_n 0, 1) := by decide +kernel
theorem d_Mo_get_10 : decode b_Mo_get 10 = .ok (.getfield 32, 3) := by decide +kernel
theorem d_Mo_get_13 : decode b_Mo_get 13 = .ok (.bipush 12, 2) := by decide +kernel
theorem d_Mo_get_15 : decode b_Mo_get 15 = .ok (.iload_n 1, 1) := by decide +kernel
theorem d_Mo_get_16 : decode b_Mo_get 16 = .ok (.imul, 1) := by decide +kernel
theorem d_Mo_get_17 : decode b_Mo_get 17 = .ok (.iload_n 2, 1) := by decide +kernel
theorem d_Mo_get_18 : decode b_Mo_get 18 = .ok (.iadd, 1) := by decide +kernel
theorem d_Mo_get_19 : decode b_Mo_get 19 = .ok (.iaload, 1) := by decide +kernel
theorem d_Mo_get_20 : decode b_Mo_get 20 = .ok (.goto 5, 3) := by decide +kernel
theorem d_Mo_get_23 : decode b_Mo_get 23 = .ok (.ldc 119, 2) := by decide +kernel
theorem d_Mo_get_25 : decode b_Mo_get 25 = .ok (.ireturn, 1) := by decide +kernel
def q_Mo_get (a1 : Int32) (a2 : Int32) (M : Mem) (post : Int32 → Mem → Prop) : Prop := q_Mo_isThere a1 a2 M (fun r2 M1 => (r2 = 0 → post (-2000000 : Int32) M1) ∧ (¬ r2 = 0 → vp_in (((12 : Int32) * a1) + a2) 144 ∧ (post (M1.1 63 (((12 : Int32) * a1) + a2).toNatClampNeg) M1)))
set_option maxHeartbeats 4000000 in
theorem s_Mo_get {l : Launch} {κ : Kp} {a1 : Int32} {a2 : Int32} {M : Mem} {post : Int32 → Mem → Prop} (hq : q_Mo_get a1 a2 M post) : Ct l κ y_Mo_get b_Mo_get 3 (some .int) 3 [.ref (κ.1 + 56), .int a1, .int a2] M (pI post) := by
  refine Ct_of (by decide) (Nat.le_of_ble_eq_true rfl) (fun γ hγ C R => ?_)
  subst hγ
  unfold q_Mo_get at hq
  show G γ κ 3 (0, 0) (Gq γ κ (pI post)) 0 [(0, .ref (κ.1 + 56)), (1, .int a1), (2, .int a2)] [] M
  refine G_aload_n C 0 d_Mo_get_0 rfl rfl ?_
  refine G_iload_n C 1 d_Mo_get_1 rfl rfl ?_
  refine G_iload_n C 2 d_Mo_get_2 rfl rfl ?_
  refine G_callV C (s_Mo_isThere hq) v_Mo_isThere i_Mo_isThere z_Mo_isThere wd_645 (by decide) rfl (k := 56) (ci := 7) (by decide) rfl rfl rfl (rest := []) (by rfl) (Nat.le_of_ble_eq_true rfl) d_Mo_get_3 (ki_ (fun r2 M1 hq => ?_))
  refine G_if_eq C (tgt := 23) d_Mo_get_6 (by decide) (fun c => ?_) (fun c => ?_)
  · replace hq := hq.1 c
    refine G_ldc C (v := -2000000) wd_655 d_Mo_get_23 ?_
    exact G_iret C R d_Mo_get_25 ⟨_, rfl, hq⟩
  · replace hq := hq.2 c
    refine G_aload_n C 0 d_Mo_get_9 rfl rfl ?_
    refine Gg_Mo_number C wd_530 d_Mo_get_10 ?_
    refine G_bipush C (v := 12) d_Mo_get_13 (by decide) ?_
    refine G_iload_n C 1 d_Mo_get_15 rfl rfl ?_
    refine G_imul C d_Mo_get_16 ?_
    refine G_iload_n C 2 d_Mo_get_17 rfl rfl ?_
    refine G_iadd C d_Mo_get_18 ?_
    refine G_iaload C (k := 63) (by decide) (fun _ _ => rfl) hq.1 d_Mo_get_19 ?_
    replace hq := hq.2
    refine G_goto C (tgt := 25) d_Mo_get_20 (by decide) ?_
    exact G_iret C R d_Mo_get_25 ⟨_, rfl, hq⟩
theorem d_Mo_slope_0 : decode b_Mo_slope 0 = .ok (.iload_n 1, 1) := by decide +kernel
theorem d_Mo_slope_1 : decode b_Mo_slope 1 = .ok (.invokestatic 102, 3) := by decide +kernel
theorem d_Mo_slope_4 : decode b_Mo_slope 4 = .ok (.ifCond .eq 10, 3) := by decide +kernel
theorem d_Mo_slope_7 : decode b_Mo_slope 7 = .ok (.iload_n 2, 1) := by decide +kernel
theorem d_Mo_slope_8 : decode b_Mo_slope 8 = .ok (.invokestatic 102, 3) := by decide +kernel
theorem d_Mo_slope_11 : decode b_Mo_slope 11 = .ok (.ifCond .ne 6, 3) := by decide +kernel
theorem d_Mo_slope_14 : decode b_Mo_slope 14 = .ok (.bipush (-2), 2) := by decide +kernel
theorem d_Mo_slope_16 : decode b_Mo_slope 16 = .ok (.ireturn, 1) := by decide +kernel
theorem d_Mo_slope_17 : decode b_Mo_slope 17 = .ok (.aload_n 0, 1) := by decide +kernel
theorem d_Mo_slope_18 : decode b_Mo_slope 18 = .ok (.getfield 29, 3) := by decide +kernel
theorem d_Mo_slope_21 : decode b_Mo_slope 21 = .ok (.iload_n 1, 1) := by decide +kernel
theorem d_Mo_slope_22 : decode b_Mo_slope 22 = .ok (.iaload, 1) := by decide +kernel
theorem d_Mo_slope_23 : decode b_Mo_slope 23 = .ok (.iconst 2, 1) := by decide +kernel
theorem d_Mo_slope_24 : decode b_Mo_slope 24 = .ok (.if_icmp .ne 6, 3) := by decide +kernel
theorem d_Mo_slope_27 : decode b_Mo_slope 27 = .ok (.bipush (-3), 2) := by decide +kernel
theorem d_Mo_slope_29 : decode b_Mo_slope 29 = .ok (.ireturn, 1) := by decide +kernel
theorem d_Mo_slope_30 : decode b_Mo_slope 30 = .ok (.aload_n 0, 1) := by decide +kernel
theorem d_Mo_slope_31 : decode b_Mo_slope 31 = .ok (.iload_n 1, 1) := by decide +kernel
theorem d_Mo_slope_32 : decode b_Mo_slope 32 = .ok (.invokevirtual 128, 3) := by decide +kernel
theorem d_Mo_slope_35 : decode b_Mo_slope 35 = .ok (.aload_n 0, 1) := by decide +kernel
theorem d_Mo_slope_36 : decode b_Mo_slope 36 = .ok (.iload_n 2, 1) := by decide +kernel
theorem d_Mo_slope_37 : decode b_Mo_slope 37 = .ok (.aload_n 0, 1) := by decide +kernel
theorem d_Mo_slope_38 : decode b_Mo_slope 38 = .ok (.getfield 29, 3) := by decide +kernel
theorem d_Mo_slope_41 : decode b_Mo_slope 41 = .ok (.iload_n 1, 1) := by decide +kernel
theorem d_Mo_slope_42 : decode b_Mo_slope 42 = .ok (.iaload, 1) := by decide +kernel
theorem d_Mo_slope_43 : decode b_Mo_slope 43 = .ok (.iconst 1, 1) := by decide +kernel
theorem d_Mo_slope_44 : decode b_Mo_slope 44 = .ok (.iadd, 1) := by decide +kernel
theorem d_Mo_slope_45 : decode b_Mo_slope 45 = .ok (.invokevirtual 132, 3) := by decide +kernel
theorem d_Mo_slope_48 : decode b_Mo_slope 48 = .ok (.ireturn, 1) := by decide +kernel
def q_Mo_slope (a1 : Int32) (a2 : Int32) (M : Mem) (post : Int32 → Mem → Prop) : Prop := q_Mo_isForm a1 M (fun r2 M1 => (r2 = 0 → post (-2 : Int32) M1) ∧ (¬ r2 = 0 → q_Mo_isForm a2 M1 (fun r4 M3 => (¬ r4 = 0 → vp_in a1 12 ∧ ((¬ (M3.1 62 a1.toNatClampNeg) = (2 : Int32) → q_Mo_makeSlope a1 M3 (fun M5 => vp_in a1 12 ∧ (q_Mo_becomes a2 ((M5.1 62 a1.toNatClampNeg) + (1 : Int32)) M5 (fun r7 M6 => post r7 M6)))) ∧ ((M3.1 62 a1.toNatClampNeg) = (2 : Int32) → post (-3 : Int32) M3))) ∧ (r4 = 0 → post (-2 : Int32) M3))))
set_option maxHeartbeats 4000000 in
theorem s_Mo_slope {l : Launch} {κ : Kp} {a1 : Int32} {a2 : Int32} {M : Mem} {post : Int32 → Mem → Prop} (hq : q_Mo_slope a1 a2 M post) : Ct l κ y_Mo_slope b_Mo_slope 3 (some .int) 3 [.ref (κ.1 + 56), .int a1, .int a2] M (pI post) := by
  refine Ct_of (by decide) (Nat.le_of_ble_eq_true rfl) (fun γ hγ C R => ?_)
  subst hγ
  unfold q_Mo_slope at hq
  show G γ κ 3 (0, 0) (Gq γ κ (pI post)) 0 [(0, .ref (κ.1 + 56)), (1, .int a1), (2, .int a2)] [] M
  refine G_iload_n C 1 d_Mo_slope_0 rfl rfl ?_
  refine G_callS C (s_Mo_isForm hq) v_Mo_isForm z_Mo_isForm wd_636 (by decide) rfl (rest := []) (by rfl) (Nat.le_of_ble_eq_true rfl) d_Mo_slope_1 (ki_ (fun r2 M1 hq => ?_))
  refine G_if_eq C (tgt := 14) d_Mo_slope_4 (by decide) (fun c => ?_) (fun c => ?_)
  · replace hq := hq.1 c
    refine G_bipush C (v := -2) d_Mo_slope_14 (by decide) ?_
    exact G_iret C R d_Mo_slope_16 ⟨_, rfl, hq⟩
  · replace hq := hq.2 c
    refine G_iload_n C 2 d_Mo_slope_7 rfl rfl ?_
    refine G_callS C (s_Mo_isForm hq) v_Mo_isForm z_Mo_isForm wd_636 (by decide) rfl (rest := []) (by rfl) (Nat.le_of_ble_eq_true rfl) d_Mo_slope_8 (ki_ (fun r4 M3 hq => ?_))
    refine G_if_ne C (tgt := 17) d_Mo_slope_11 (by decide) (fun c => ?_) (fun c => ?_)
    · replace hq := hq.1 c
      refine G_aload_n C 0 d_Mo_slope_17 rfl rfl ?_
      refine Gg_Mo_degree C wd_529 d_Mo_slope_18 ?_
      refine G_iload_n C 1 d_Mo_slope_21 rfl rfl ?_
      refine G_iaload C (k := 62) (by decide) (fun _ _ => rfl) hq.1 d_Mo_slope_22 ?_
      replace hq := hq.2
      refine G_iconst C (v := 2) d_Mo_slope_23 (by decide) ?_
      refine G_icmp_ne C (tgt := 30) d_Mo_slope_24 (by decide) (fun c => ?_) (fun c => ?_)
      · replace hq := hq.1 c
        refine G_aload_n C 0 d_Mo_slope_30 rfl rfl ?_
        refine G_iload_n C 1 d_Mo_slope_31 rfl rfl ?_
        refine G_callV C (s_Mo_makeSlope hq) v_Mo_makeSlope i_Mo_makeSlope z_Mo_makeSlope wd_664 (by decide) rfl (k := 56) (ci := 7) (by decide) rfl rfl rfl (rest := []) (by rfl) (Nat.le_of_ble_eq_true rfl) d_Mo_slope_32 (kv_ (fun M5 hq => ?_))
        refine G_aload_n C 0 d_Mo_slope_35 rfl rfl ?_
        refine G_iload_n C 2 d_Mo_slope_36 rfl rfl ?_
        refine G_aload_n C 0 d_Mo_slope_37 rfl rfl ?_
        refine Gg_Mo_degree C wd_529 d_Mo_slope_38 ?_
        refine G_iload_n C 1 d_Mo_slope_41 rfl rfl ?_
        refine G_iaload C (k := 62) (by decide) (fun _ _ => rfl) hq.1 d_Mo_slope_42 ?_
        replace hq := hq.2
        refine G_iconst C (v := 1) d_Mo_slope_43 (by decide) ?_
        refine G_iadd C d_Mo_slope_44 ?_
        refine G_callV C (s_Mo_becomes hq) v_Mo_becomes i_Mo_becomes z_Mo_becomes wd_676 (by decide) rfl (k := 56) (ci := 7) (by decide) rfl rfl rfl (rest := []) (by rfl) (Nat.le_of_ble_eq_true rfl) d_Mo_slope_45 (ki_ (fun r7 M6 hq => ?_))
        exact G_iret C R d_Mo_slope_48 ⟨_, rfl, hq⟩
      · replace hq := hq.2 c
        refine G_bipush C (v := -3) d_Mo_slope_27 (by decide) ?_
        exact G_iret C R d_Mo_slope_29 ⟨_, rfl, hq⟩
    · replace hq := hq.2 c
      refine G_bipush C (v := -2) d_Mo_slope_14 (by decide) ?_
      exact G_iret C R d_Mo_slope_16 ⟨_, rfl, hq⟩
theorem d_Mo_cup_0 : decode b_Mo_cup 0 = .ok (.iload_n 1, 1) := by decide +kernel
theorem d_Mo_cup_1 : decode b_Mo_cup 1 = .ok (.invokestatic 102, 3) := by decide +kernel
theorem d_Mo_cup_4 : decode b_Mo_cup 4 = .ok (.ifCond .eq 17, 3) := by decide +kernel
theorem d_Mo_cup_7 : decode b_Mo_cup 7 = .ok (.iload_n 2, 1) := by decide +kernel
theorem d_Mo_cup_8 : decode b_Mo_cup 8 = .ok (.invokestatic 102, 3) := by decide +kernel
theorem d_Mo_cup_11 : decode b_Mo_cup 11 = .ok (.ifCond .eq 10, 3) := by decide +kernel
theorem d_Mo_cup_14 : decode b_Mo_cup 14 = .ok (.iload_n 3, 1) := by decide +kernel
theorem d_Mo_cup_15 : decode b_Mo_cup 15 = .ok (.invokestatic 102, 3) := by decide +kernel
theorem d_Mo_cup_18 : decode b_Mo_cup 18 = .ok (.ifCond .ne 6, 3) := by decide +kernel
theorem d_Mo_cup_21 : decode b_Mo_cup 21 = .ok (.bipush (-2), 2) := by decide +kernel
theorem d_Mo_cup_23 : decode b_Mo_cup 23 = .ok (.ireturn, 1) := by decide +kernel
theorem d_Mo_cup_24 : decode b_Mo_cup 24 = .ok (.aload_n 0, 1) := by decide +kernel
theorem d_Mo_cup_25 : decode b_Mo_cup 25 = .ok (.getfield 29, 3) := by decide +kernel
theorem d_Mo_cup_28 : decode b_Mo_cup 28 = .ok (.iload_n 1, 1) := by decide +kernel
theorem d_Mo_cup_29 : decode b_Mo_cup 29 = .ok (.iaload, 1) := by decide +kernel
theorem d_Mo_cup_30 : decode b_Mo_cup 30 = .ok (.aload_n 0, 1) := by decide +kernel
theorem d_Mo_cup_31 : decode b_Mo_cup 31 = .ok (.getfield 29, 3) := by decide +kernel
theorem d_Mo_cup_34 : decode b_Mo_cup 34 = .ok (.iload_n 2, 1) := by decide +kernel
theorem d_Mo_cup_35 : decode b_Mo_cup 35 = .ok (.iaload, 1) := by decide +kernel
theorem d_Mo_cup_36 : decode b_Mo_cup 36 = .ok (.iadd, 1) := by decide +kernel
theorem d_Mo_cup_37 : decode b_Mo_cup 37 = .ok (.istore 4, 2) := by decide +kernel
theorem d_Mo_cup_39 : decode b_Mo_cup 39 = .ok (.iload 4, 2) := by decide +kernel
theorem d_Mo_cup_41 : decode b_Mo_cup 41 = .ok (.iconst 2, 1) := by decide +kernel
theorem d_Mo_cup_42 : decode b_Mo_cup 42 = .ok (.if_icmp .le 6, 3) := by decide +kernel
theorem d_Mo_cup_45 : decode b_Mo_cup 45 = .ok (.bipush (-3), 2) := by decide +kernel
theorem d_Mo_cup_47 : decode b_Mo_cup 47 = .ok (.ireturn, 1) := by decide +kernel
theorem d_Mo_cup_48 : decode b_Mo_cup 48 = .ok (.iconst 0, 1) := by decide +kernel
theorem d_Mo_cup_49 : decode b_Mo_cup 49 = .ok (.istore 5, 2) := by decide +kernel
theorem d_Mo_cup_51 : decode b_Mo_cup 51 = .ok (.iload 5, 2) := by decide +kernel
theorem d_Mo_cup_53 : decode b_Mo_cup 53 = .ok (.aload_n 0, 1) := by decide +kernel
theorem d_Mo_cup_54 : decode b_Mo_cup 54 = .ok (.iload 4, 2) := by decide +kernel
theorem d_Mo_cup_56 : decode b_Mo_cup 56 = .ok (.invokevirtual 107, 3) := by decide +kernel
theorem d_Mo_cup_59 : decode b_Mo_cup 59 = .ok (.if_icmp .ge 24, 3) := by decide +kernel
theorem d_Mo_cup_62 : decode b_Mo_cup 62 = .ok (.aload_n 0, 1) := by decide +kernel
theorem d_Mo_cup_63 : decode b_Mo_cup 63 = .ok (.getfield 49, 3) := by decide +kernel
theorem d_Mo_cup_66 : decode b_Mo_cup 66 = .ok (.iload 5, 2) := by decide +kernel
theorem d_Mo_cup_68 : decode b_Mo_cup 68 = .ok (.aload_n 0, 1) := by decide +kernel
theorem d_Mo_cup_69 : decode b_Mo_cup 69 = .ok (.iload_n 1, 1) := by decide +kernel
theorem d_Mo_cup_70 : decode b_Mo_cup 70 = .ok (.iload_n 2, 1) := by decide +kernel
theorem d_Mo_cup_71 : decode b_Mo_cup 71 = .ok (.iload 5, 2) := by decide +kernel
theorem d_Mo_cup_73 : decode b_Mo_cup 73 = .ok (.invokevirtual 138, 3) := by decide +kernel
theorem d_Mo_cup_76 : decode b_Mo_cup 76 = .ok (.lastore, 1) := by decide +kernel
theorem d_Mo_cup_77 : decode b_Mo_cup 77 = .ok (.iinc 5 1, 3) := by decide +kernel
theorem d_Mo_cup_80 : decode b_Mo_cup 80 = .ok (.goto (-29), 3) := by decide +kernel
theorem d_Mo_cup_83 : decode b_Mo_cup 83 = .ok (.aload_n 0, 1) := by decide +kernel
theorem d_Mo_cup_84 : decode b_Mo_cup 84 = .ok (.iload_n 3, 1) := by decide +kernel
theorem d_Mo_cup_85 : decode b_Mo_cup 85 = .ok (.iload 4, 2) := by decide +kernel
theorem d_Mo_cup_87 : decode b_Mo_cup 87 = .ok (.invokevirtual 132, 3) := by decide +kernel
theorem d_Mo_cup_90 : decode b_Mo_cup 90 = .ok (.ireturn, 1) := by decide +kernel
def q_Mo_cup_L51 (kx83 : Int32 → Int32 → Mem → Prop) (post : Int32 → Mem → Prop) : Nat → Int32 → Int32 → Int32 → Int32 → Int32 → Mem → Prop
  | 0, _, _, _, _, _, _ => False
  | n + 1, x1, x2, x3, x4, x5, M => q_Mo_size x4 M (fun r8 M7 => (r8 ≤ x5 → kx83 x3 x4 M7) ∧ (¬ r8 ≤ x5 → q_Mo_cupAt x1 x2 x5 M7 (fun r10 M9 => vp_in x5 12 ∧ (∀ M11, M11 = wJ M9 68 x5.toNatClampNeg r10 → q_Mo_cup_L51 kx83 post n x1 x2 x3 x4 (x5 + 1) M11))))
set_option maxHeartbeats 4000000 in
theorem s_Mo_cup_L51 {γ : Gm} {κ : Kp} {post : Int32 → Mem → Prop} {kx83 : Int32 → Int32 → Mem → Prop} (C : Cx γ κ "NetFormsModel" b_Mo_cup 6 3 (0, 0)) (R : Rt γ (some .int)) (hx83 : ∀ y1 y2 M', kx83 y1 y2 M' → G γ κ 6 (0, 0) (Gq γ κ (pI post)) 83 [(0, .ref (κ.1 + 56)), (3, .int y1), (4, .int y2)] [] M') : ∀ (n : Nat) (x1 : Int32) (x2 : Int32) (x3 : Int32) (x4 : Int32) (x5 : Int32) (M : Mem), q_Mo_cup_L51 kx83 post n x1 x2 x3 x4 x5 M → G γ κ 6 (0, 0) (Gq γ κ (pI post)) 51 [(0, .ref (κ.1 + 56)), (1, .int x1), (2, .int x2), (3, .int x3), (4, .int x4), (5, .int x5)] [] M := by
  intro n
  induction n with
  | zero => intro x1 x2 x3 x4 x5 M hq; exact hq.elim
  | succ n ih =>
    intro x1 x2 x3 x4 x5 M hq
    unfold q_Mo_cup_L51 at hq
    refine G_iload C 5 d_Mo_cup_51 rfl ?_
    refine G_aload_n C 0 d_Mo_cup_53 rfl rfl ?_
    refine G_iload C 4 d_Mo_cup_54 rfl ?_
    refine G_callV C (s_Mo_size hq) v_Mo_size i_Mo_size z_Mo_size wd_649 (by decide) rfl (k := 56) (ci := 7) (by decide) rfl rfl rfl (rest := [_]) (by rfl) (Nat.le_of_ble_eq_true rfl) d_Mo_cup_56 (ki_ (fun r8 M7 hq => ?_))
    refine G_icmp_ge C (tgt := 83) d_Mo_cup_59 (by decide) (fun c => ?_) (fun c => ?_)
    · replace hq := hq.1 c
      exact G_sub [0, 3, 4] (by rfl) (hx83 _ _ _ hq)
    · replace hq := hq.2 c
      refine G_aload_n C 0 d_Mo_cup_62 rfl rfl ?_
      refine Gg_Mo_made C wd_536 d_Mo_cup_63 ?_
      refine G_iload C 5 d_Mo_cup_66 rfl ?_
      refine G_aload_n C 0 d_Mo_cup_68 rfl rfl ?_
      refine G_iload_n C 1 d_Mo_cup_69 rfl rfl ?_
      refine G_iload_n C 2 d_Mo_cup_70 rfl rfl ?_
      refine G_iload C 5 d_Mo_cup_71 rfl ?_
      refine G_callV C (s_Mo_cupAt hq) v_Mo_cupAt i_Mo_cupAt z_Mo_cupAt wd_692 (by decide) rfl (k := 56) (ci := 7) (by decide) rfl rfl rfl (rest := [_, _]) (by rfl) (Nat.le_of_ble_eq_true rfl) d_Mo_cup_73 (kj_ (fun r10 M9 hq => ?_))
      refine G_lastore C (k := 68) (by decide) (fun _ _ => rfl) hq.1 d_Mo_cup_76 ?_
      replace hq := hq.2 _ rfl
      refine G_iinc C (v := _ + 1) (lv' := [(5, _), (0, _), (1, _), (2, _), (3, _), (4, _)]) 5 d_Mo_cup_77 rfl rfl (by decide) rfl ?_
      refine G_goto C (tgt := 51) d_Mo_cup_80 (by decide) ?_
      exact G_sub [1, 2, 3, 4, 5, 0] (by rfl) (ih _ _ _ _ _ _ hq)
def q_Mo_cup (a1 : Int32) (a2 : Int32) (a3 : Int32) (M : Mem) (post : Int32 → Mem → Prop) : Prop := q_Mo_isForm a1 M (fun r2 M1 => (r2 = 0 → post (-2 : Int32) M1) ∧ (¬ r2 = 0 → q_Mo_isForm a2 M1 (fun r4 M3 => (r4 = 0 → post (-2 : Int32) M3) ∧ (¬ r4 = 0 → q_Mo_isForm a3 M3 (fun r6 M5 => (¬ r6 = 0 → vp_in a1 12 ∧ (vp_in a2 12 ∧ ((((M5.1 62 a1.toNatClampNeg) + (M5.1 62 a2.toNatClampNeg)) ≤ (2 : Int32) → ∃ n12, q_Mo_cup_L51 (fun x13 x14 M15 => q_Mo_becomes x13 x14 M15 (fun r17 M16 => post r17 M16)) post n12 a1 a2 a3 ((M5.1 62 a1.toNatClampNeg) + (M5.1 62 a2.toNatClampNeg)) (0 : Int32) M5) ∧ (¬ ((M5.1 62 a1.toNatClampNeg) + (M5.1 62 a2.toNatClampNeg)) ≤ (2 : Int32) → post (-3 : Int32) M5)))) ∧ (r6 = 0 → post (-2 : Int32) M5))))))
set_option maxHeartbeats 4000000 in
theorem s_Mo_cup {l : Launch} {κ : Kp} {a1 : Int32} {a2 : Int32} {a3 : Int32} {M : Mem} {post : Int32 → Mem → Prop} (hq : q_Mo_cup a1 a2 a3 M post) : Ct l κ y_Mo_cup b_Mo_cup 6 (some .int) 3 [.ref (κ.1 + 56), .int a1, .int a2, .int a3] M (pI post) := by
  refine Ct_of (by decide) (Nat.le_of_ble_eq_true rfl) (fun γ hγ C R => ?_)
  subst hγ
  unfold q_Mo_cup at hq
  show G γ κ 6 (0, 0) (Gq γ κ (pI post)) 0 [(0, .ref (κ.1 + 56)), (1, .int a1), (2, .int a2), (3, .int a3)] [] M
  refine G_iload_n C 1 d_Mo_cup_0 rfl rfl ?_
  refine G_callS C (s_Mo_isForm hq) v_Mo_isForm z_Mo_isForm wd_636 (by decide) rfl (rest := []) (by rfl) (Nat.le_of_ble_eq_true rfl) d_Mo_cup_1 (ki_ (fun r2 M1 hq => ?_))
  refine G_if_eq C (tgt := 21) d_Mo_cup_4 (by decide) (fun c => ?_) (fun c => ?_)
  · replace hq := hq.1 c
    refine G_bipush C (v := -2) d_Mo_cup_21 (by decide) ?_
    exact G_iret C R d_Mo_cup_23 ⟨_, rfl, hq⟩
  · replace hq := hq.2 c
    refine G_iload_n C 2 d_Mo_cup_7 rfl rfl ?_
    refine G_callS C (s_Mo_isForm hq) v_Mo_isForm z_Mo_isForm wd_636 (by decide) rfl (rest := []) (by rfl) (Nat.le_of_ble_eq_true rfl) d_Mo_cup_8 (ki_ (fun r4 M3 hq => ?_))
    refine G_if_eq C (tgt := 21) d_Mo_cup_11 (by decide) (fun c => ?_) (fun c => ?_)
    · replace hq := hq.1 c
      refine G_bipush C (v := -2) d_Mo_cup_21 (by decide) ?_
      exact G_iret C R d_Mo_cup_23 ⟨_, rfl, hq⟩
    · replace hq := hq.2 c
      refine G_iload_n C 3 d_Mo_cup_14 rfl rfl ?_
      refine G_callS C (s_Mo_isForm hq) v_Mo_isForm z_Mo_isForm wd_636 (by decide) rfl (rest := []) (by rfl) (Nat.le_of_ble_eq_true rfl) d_Mo_cup_15 (ki_ (fun r6 M5 hq => ?_))
      refine G_if_ne C (tgt := 24) d_Mo_cup_18 (by decide) (fun c => ?_) (fun c => ?_)
      · replace hq := hq.1 c
        refine G_aload_n C 0 d_Mo_cup_24 rfl rfl ?_
        refine Gg_Mo_degree C wd_529 d_Mo_cup_25 ?_
        refine G_iload_n C 1 d_Mo_cup_28 rfl rfl ?_
        refine G_iaload C (k := 62) (by decide) (fun _ _ => rfl) hq.1 d_Mo_cup_29 ?_
        replace hq := hq.2
        refine G_aload_n C 0 d_Mo_cup_30 rfl rfl ?_
        refine Gg_Mo_degree C wd_529 d_Mo_cup_31 ?_
        refine G_iload_n C 2 d_Mo_cup_34 rfl rfl ?_
        refine G_iaload C (k := 62) (by decide) (fun _ _ => rfl) hq.1 d_Mo_cup_35 ?_
        replace hq := hq.2
        refine G_iadd C d_Mo_cup_36 ?_
        refine G_istore C (lv' := [(4, _), (0, _), (1, _), (2, _), (3, _)]) d_Mo_cup_37 (by decide) rfl ?_
        refine G_iload C 0 d_Mo_cup_39 rfl ?_
        refine G_iconst C (v := 2) d_Mo_cup_41 (by decide) ?_
        refine G_icmp_le C (tgt := 48) d_Mo_cup_42 (by decide) (fun c => ?_) (fun c => ?_)
        · replace hq := hq.1 c
          refine G_iconst C (v := 0) d_Mo_cup_48 (by decide) ?_
          refine G_istore C (lv' := [(5, _), (4, _), (0, _), (1, _), (2, _), (3, _)]) d_Mo_cup_49 (by decide) rfl ?_
          obtain ⟨n12, hq⟩ := hq
          refine G_sub [2, 3, 4, 5, 1, 0] (by rfl) (s_Mo_cup_L51 C R ?_ n12 _ _ _ _ _ _ hq)
          · intro x13 x14 M15 hq
            refine G_aload_n C 0 d_Mo_cup_83 rfl rfl ?_
            refine G_iload_n C 1 d_Mo_cup_84 rfl rfl ?_
            refine G_iload C 2 d_Mo_cup_85 rfl ?_
            refine G_callV C (s_Mo_becomes hq) v_Mo_becomes i_Mo_becomes z_Mo_becomes wd_676 (by decide) rfl (k := 56) (ci := 7) (by decide) rfl rfl rfl (rest := []) (by rfl) (Nat.le_of_ble_eq_true rfl) d_Mo_cup_87 (ki_ (fun r17 M16 hq => ?_))
            exact G_iret C R d_Mo_cup_90 ⟨_, rfl, hq⟩
        · replace hq := hq.2 c
          refine G_bipush C (v := -3) d_Mo_cup_45 (by decide) ?_
          exact G_iret C R d_Mo_cup_47 ⟨_, rfl, hq⟩
      · replace hq := hq.2 c
        refine G_bipush C (v := -2) d_Mo_cup_21 (by decide) ?_
        exact G_iret C R d_Mo_cup_23 ⟨_, rfl, hq⟩
theorem d_Mo_about_0 : decode b_Mo_about 0 = .ok (.iload_n 1, 1) := by decide +kernel
theorem d_Mo_about_1 : decode b_Mo_about 1 = .ok (.invokestatic 102, 3) := by decide +kernel
theorem d_Mo_about_4 : decode b_Mo_about 4 = .ok (.ifCond .eq 15, 3) := by decide +kernel
theorem d_Mo_about_7 : decode b_Mo_about 7 = .ok (.iload_n 2, 1) := by decide +kernel
theorem d_Mo_about_8 : decode b_Mo_about 8 = .ok (.i2l, 1) := by decide +kernel
theorem d_Mo_about_9 : decode b_Mo_about 9 = .ok (.lconst 0, 1) := by decide +kernel
theorem d_Mo_about_10 : decode b_Mo_about 10 = .ok (.ldc2_w 145, 3) := by decide +kernel
theorem d_Mo_about_13 : decode b_Mo_about 13 = .ok (.invokestatic 75, 3) := by decide +kernel
theorem d_Mo_about_16 : decode b_Mo_about 16 = .ok (.ifCond .ne 6, 3) := by decide +kernel
theorem d_Mo_about_19 : decode b_Mo_about 19 = .ok (.bipush (-2), 2) := by decide +kernel
theorem d_Mo_about_21 : decode b_Mo_about 21 = .ok (.ireturn, 1) := by decide +kernel
theorem d_Mo_about_22 : decode b_Mo_about 22 = .ok (.aload_n 0, 1) := by decide +kernel
theorem d_Mo_about_23 : decode b_Mo_about 23 = .ok (.getfield 29, 3) := by decide +kernel
theorem d_Mo_about_26 : decode b_Mo_about 26 = .ok (.iload_n 1, 1) := by decide +kernel
theorem d_Mo_about_27 : decode b_Mo_about 27 = .ok (.iaload, 1) := by decide +kernel
theorem d_Mo_about_28 : decode b_Mo_about 28 = .ok (.istore_n 3, 1) := by decide +kernel
theorem d_Mo_about_29 : decode b_Mo_about 29 = .ok (.iconst 1, 1) := by decide +kernel
theorem d_Mo_about_30 : decode b_Mo_about 30 = .ok (.istore 4, 2) := by decide +kernel
theorem d_Mo_about_32 : decode b_Mo_about 32 = .ok (.iload_n 2, 1) := by decide +kernel
theorem d_Mo_about_33 : decode b_Mo_about 33 = .ok (.ifCond .ne 5, 3) := by decide +kernel
theorem d_Mo_about_36 : decode b_Mo_about 36 = .ok (.iload_n 3, 1) := by decide +kernel
theorem d_Mo_about_37 : decode b_Mo_about 37 = .ok (.ireturn, 1) := by decide +kernel
theorem d_Mo_about_38 : decode b_Mo_about 38 = .ok (.iload_n 2, 1) := by decide +kernel
theorem d_Mo_about_39 : decode b_Mo_about 39 = .ok (.iconst 1, 1) := by decide +kernel
theorem d_Mo_about_40 : decode b_Mo_about 40 = .ok (.if_icmp .ne 49, 3) := by decide +kernel
theorem d_Mo_about_43 : decode b_Mo_about 43 = .ok (.iconst 0, 1) := by decide +kernel
theorem d_Mo_about_44 : decode b_Mo_about 44 = .ok (.istore 5, 2) := by decide +kernel
theorem d_Mo_about_46 : decode b_Mo_about 46 = .ok (.iload 5, 2) := by decide +kernel
theorem d_Mo_about_48 : decode b_Mo_about 48 = .ok (.aload_n 0, 1) := by decide +kernel
theorem d_Mo_about_49 : decode b_Mo_about 49 = .ok (.iload_n 3, 1) := by decide +kernel
theorem d_Mo_about_50 : decode b_Mo_about 50 = .ok (.invokevirtual 107, 3) := by decide +kernel
theorem d_Mo_about_53 : decode b_Mo_about 53 = .ok (.if_icmp .ge 33, 3) := by decide +kernel
theorem d_Mo_about_56 : decode b_Mo_about 56 = .ok (.iload 4, 2) := by decide +kernel
theorem d_Mo_about_58 : decode b_Mo_about 58 = .ok (.ifCond .eq 19, 3) := by decide +kernel
theorem d_Mo_about_61 : decode b_Mo_about 61 = .ok (.aload_n 0, 1) := by decide +kernel
theorem d_Mo_about_62 : decode b_Mo_about 62 = .ok (.iload_n 1, 1) := by decide +kernel
theorem d_Mo_about_63 : decode b_Mo_about 63 = .ok (.iload 5, 2) := by decide +kernel
theorem d_Mo_about_65 : decode b_Mo_about 65 = .ok (.invokevirtual 120, 3) := by decide +kernel
theorem d_Mo_about_68 : decode b_Mo_about 68 = .ok (.lconst 0, 1) := by decide +kernel
theorem d_Mo_about_69 : decode b_Mo_about 69 = .ok (.lcmp, 1) := by decide +kernel
theorem d_Mo_about_70 : decode b_Mo_about 70 = .ok (.ifCond .ne 7, 3) := by decide +kernel
theorem d_Mo_about_73 : decode b_Mo_about 73 = .ok (.iconst 1, 1) := by decide +kernel
theorem d_Mo_about_74 : decode b_Mo_about 74 = .ok (.goto 4, 3) := by decide +kernel
theorem d_Mo_about_77 : decode b_Mo_about 77 = .ok (.iconst 0, 1) := by decide +kernel
theorem d_Mo_about_78 : decode b_Mo_about 78 = .ok (.istore 4, 2) := by decide +kernel
theorem d_Mo_about_80 : decode b_Mo_about 80 = .ok (.iinc 5 1, 3) := by decide +kernel
theorem d_Mo_about_83 : decode b_Mo_about 83 = .ok (.goto (-37), 3) := by decide +kernel
theorem d_Mo_about_86 : decode b_Mo_about 86 = .ok (.goto 53, 3) := by decide +kernel
theorem d_Mo_about_89 : decode b_Mo_about 89 = .ok (.iload_n 2, 1) := by decide +kernel
theorem d_Mo_about_90 : decode b_Mo_about 90 = .ok (.iconst 2, 1) := by decide +kernel
theorem d_Mo_about_91 : decode b_Mo_about 91 = .ok (.if_icmp .ne 25, 3) := by decide +kernel
theorem d_Mo_about_94 : decode b_Mo_about 94 = .ok (.iload_n 3, 1) := by decide +kernel
theorem d_Mo_about_95 : decode b_Mo_about 95 = .ok (.iconst 2, 1) := by decide +kernel
theorem d_Mo_about_96 : decode b_Mo_about 96 = .ok (.if_icmp .ge 20, 3) := by decide +kernel
theorem d_Mo_about_99 : decode b_Mo_about 99 = .ok (.aload_n 0, 1) := by decide +kernel
theorem d_Mo_about_100 : decode b_Mo_about 100 = .ok (.iload_n 1, 1) := by decide +kernel
theorem d_Mo_about_101 : decode b_Mo_about 101 = .ok (.invokevirtual 128, 3) := by decide +kernel
theorem d_Mo_about_104 : decode b_Mo_about 104 = .ok (.aload_n 0, 1) := by decide +kernel
theorem d_Mo_about_105 : decode b_Mo_about 105 = .ok (.iload_n 3, 1) := by decide +kernel
theorem d_Mo_about_106 : decode b_Mo_about 106 = .ok (.iconst 1, 1) := by decide +kernel
theorem d_Mo_about_107 : decode b_Mo_about 107 = .ok (.iadd, 1) := by decide +kernel
theorem d_Mo_about_108 : decode b_Mo_about 108 = .ok (.invokevirtual 147, 3) := by decide +kernel
theorem d_Mo_about_111 : decode b_Mo_about 111 = .ok (.istore 4, 2) := by decide +kernel
theorem d_Mo_about_113 : decode b_Mo_about 113 = .ok (.goto 26, 3) := by decide +kernel
theorem d_Mo_about_116 : decode b_Mo_about 116 = .ok (.iload_n 2, 1) := by decide +kernel
theorem d_Mo_about_117 : decode b_Mo_about 117 = .ok (.iconst 3, 1) := by decide +kernel
theorem d_Mo_about_118 : decode b_Mo_about 118 = .ok (.if_icmp .ne 21, 3) := by decide +kernel
theorem d_Mo_about_121 : decode b_Mo_about 121 = .ok (.iload_n 3, 1) := by decide +kernel
theorem d_Mo_about_122 : decode b_Mo_about 122 = .ok (.ifCond .le 17, 3) := by decide +kernel
theorem d_Mo_about_125 : decode b_Mo_about 125 = .ok (.aload_n 0, 1) := by decide +kernel
theorem d_Mo_about_126 : decode b_Mo_about 126 = .ok (.iload_n 1, 1) := by decide +kernel
theorem d_Mo_about_127 : decode b_Mo_about 127 = .ok (.invokevirtual 135, 3) := by decide +kernel
theorem d_Mo_about_130 : decode b_Mo_about 130 = .ok (.aload_n 0, 1) := by decide +kernel
theorem d_Mo_about_131 : decode b_Mo_about 131 = .ok (.iload_n 3, 1) := by decide +kernel
theorem d_Mo_about_132 : decode b_Mo_about 132 = .ok (.iconst 1, 1) := by decide +kernel
theorem d_Mo_about_133 : decode b_Mo_about 133 = .ok (.isub, 1) := by decide +kernel
theorem d_Mo_about_134 : decode b_Mo_about 134 = .ok (.invokevirtual 147, 3) := by decide +kernel
theorem d_Mo_about_137 : decode b_Mo_about 137 = .ok (.istore 4, 2) := by decide +kernel
theorem d_Mo_about_139 : decode b_Mo_about 139 = .ok (.iload 4, 2) := by decide +kernel
theorem d_Mo_about_141 : decode b_Mo_about 141 = .ok (.ifCond .eq 7, 3) := by decide +kernel
theorem d_Mo_about_144 : decode b_Mo_about 144 = .ok (.iconst 1, 1) := by decide +kernel
theorem d_Mo_about_145 : decode b_Mo_about 145 = .ok (.goto 4, 3) := by decide +kernel
theorem d_Mo_about_148 : decode b_Mo_about 148 = .ok (.iconst 0, 1) := by decide +kernel
theorem d_Mo_about_149 : decode b_Mo_about 149 = .ok (.ireturn, 1) := by decide +kernel
def q_Mo_about_L46 (kx86 : Int32 → Mem → Prop) (post : Int32 → Mem → Prop) : Nat → Int32 → Int32 → Int32 → Int32 → Mem → Prop
  | 0, _, _, _, _, _ => False
  | n + 1, x1, x3, x4, x5, M => q_Mo_size x3 M (fun r15 M14 => (r15 ≤ x5 → kx86 x4 M14) ∧ (¬ r15 ≤ x5 → (x4 = 0 → q_Mo_about_L46 kx86 post n x1 x3 (0 : Int32) (x5 + 1) M14) ∧ (¬ x4 = 0 → q_Mo_at x1 x5 M14 (fun r17 M16 => (¬ r17 = (0 : Int64) → q_Mo_about_L46 kx86 post n x1 x3 (0 : Int32) (x5 + 1) M16) ∧ (r17 = (0 : Int64) → q_Mo_about_L46 kx86 post n x1 x3 (1 : Int32) (x5 + 1) M16)))))
set_option maxHeartbeats 4000000 in
theorem s_Mo_about_L46 {γ : Gm} {κ : Kp} {post : Int32 → Mem → Prop} {kx86 : Int32 → Mem → Prop} (C : Cx γ κ "NetFormsModel" b_Mo_about 6 3 (0, 0)) (R : Rt γ (some .int)) (hx86 : ∀ y0 M', kx86 y0 M' → G γ κ 6 (0, 0) (Gq γ κ (pI post)) 86 [(4, .int y0)] [] M') : ∀ (n : Nat) (x1 : Int32) (x3 : Int32) (x4 : Int32) (x5 : Int32) (M : Mem), q_Mo_about_L46 kx86 post n x1 x3 x4 x5 M → G γ κ 6 (0, 0) (Gq γ κ (pI post)) 46 [(0, .ref (κ.1 + 56)), (1, .int x1), (3, .int x3), (4, .int x4), (5, .int x5)] [] M := by
  intro n
  induction n with
  | zero => intro x1 x3 x4 x5 M hq; exact hq.elim
  | succ n ih =>
    intro x1 x3 x4 x5 M hq
    unfold q_Mo_about_L46 at hq
    refine G_iload C 4 d_Mo_about_46 rfl ?_
    refine G_aload_n C 0 d_Mo_about_48 rfl rfl ?_
    refine G_iload_n C 2 d_Mo_about_49 rfl rfl ?_
    refine G_callV C (s_Mo_size hq) v_Mo_size i_Mo_size z_Mo_size wd_649 (by decide) rfl (k := 56) (ci := 7) (by decide) rfl rfl rfl (rest := [_]) (by rfl) (Nat.le_of_ble_eq_true rfl) d_Mo_about_50 (ki_ (fun r15 M14 hq => ?_))
    refine G_icmp_ge C (tgt := 86) d_Mo_about_53 (by decide) (fun c => ?_) (fun c => ?_)
    · replace hq := hq.1 c
      exact G_sub [3] (by rfl) (hx86 _ _ hq)
    · replace hq := hq.2 c
      refine G_iload C 3 d_Mo_about_56 rfl ?_
      refine G_if_eq C (tgt := 77) d_Mo_about_58 (by decide) (fun c => ?_) (fun c => ?_)
      · replace hq := hq.1 c
        refine G_iconst C (v := 0) d_Mo_about_77 (by decide) ?_
        refine G_istore C (lv' := [(4, _), (0, _), (1, _), (3, _), (5, _)]) d_Mo_about_78 (by decide) rfl ?_
        refine G_iinc C (v := _ + 1) (lv' := [(5, _), (4, _), (0, _), (1, _), (3, _)]) 4 d_Mo_about_80 rfl rfl (by decide) rfl ?_
        refine G_goto C (tgt := 46) d_Mo_about_83 (by decide) ?_
        exact G_sub [2, 3, 4, 1, 0] (by rfl) (ih _ _ _ _ _ hq)
      · replace hq := hq.2 c
        refine G_aload_n C 0 d_Mo_about_61 rfl rfl ?_
        refine G_iload_n C 1 d_Mo_about_62 rfl rfl ?_
        refine G_iload C 4 d_Mo_about_63 rfl ?_
        refine G_callV C (s_Mo_at hq) v_Mo_at i_Mo_at z_Mo_at wd_668 (by decide) rfl (k := 56) (ci := 7) (by decide) rfl rfl rfl (rest := []) (by rfl) (Nat.le_of_ble_eq_true rfl) d_Mo_about_65 (kj_ (fun r17 M16 hq => ?_))
        refine G_lconst C (v := 0) d_Mo_about_68 (by decide) ?_
        refine G_lcmp_ne C (tgt := 77) (pc1 := 70) d_Mo_about_69 rfl d_Mo_about_70 (by decide) (fun c => ?_) (fun c => ?_)
        · replace hq := hq.1 c
          refine G_iconst C (v := 0) d_Mo_about_77 (by decide) ?_
          refine G_istore C (lv' := [(4, _), (0, _), (1, _), (3, _), (5, _)]) d_Mo_about_78 (by decide) rfl ?_
          refine G_iinc C (v := _ + 1) (lv' := [(5, _), (4, _), (0, _), (1, _), (3, _)]) 4 d_Mo_about_80 rfl rfl (by decide) rfl ?_
          refine G_goto C (tgt := 46) d_Mo_about_83 (by decide) ?_
          exact G_sub [2, 3, 4, 1, 0] (by rfl) (ih _ _ _ _ _ hq)
        · replace hq := hq.2 c
          refine G_iconst C (v := 1) d_Mo_about_73 (by decide) ?_
          refine G_goto C (tgt := 78) d_Mo_about_74 (by decide) ?_
          refine G_istore C (lv' := [(4, _), (0, _), (1, _), (3, _), (5, _)]) d_Mo_about_78 (by decide) rfl ?_
          refine G_iinc C (v := _ + 1) (lv' := [(5, _), (4, _), (0, _), (1, _), (3, _)]) 4 d_Mo_about_80 rfl rfl (by decide) rfl ?_
          refine G_goto C (tgt := 46) d_Mo_about_83 (by decide) ?_
          exact G_sub [2, 3, 4, 1, 0] (by rfl) (ih _ _ _ _ _ hq)
def q_Mo_about (a1 : Int32) (a2 : Int32) (M : Mem) (post : Int32 → Mem → Prop) : Prop := q_Mo_isForm a1 M (fun r2 M1 => (r2 = 0 → post (-2 : Int32) M1) ∧ (¬ r2 = 0 → q_Mo_in a2.toInt64 (0 : Int64) (3 : Int64) M1 (fun r4 M3 => (¬ r4 = 0 → vp_in a1 12 ∧ ((¬ a2 = 0 → (¬ a2 = (1 : Int32) → (¬ a2 = (2 : Int32) → (¬ a2 = (3 : Int32) → ((1 : Int32) = 0 → post (0 : Int32) M3) ∧ (¬ (1 : Int32) = 0 → post (1 : Int32) M3)) ∧ (a2 = (3 : Int32) → ((M3.1 62 a1.toNatClampNeg) ≤ 0 → ((1 : Int32) = 0 → post (0 : Int32) M3) ∧ (¬ (1 : Int32) = 0 → post (1 : Int32) M3)) ∧ (¬ (M3.1 62 a1.toNatClampNeg) ≤ 0 → q_Mo_makeRim a1 M3 (fun M5 => q_Mo_isNought ((M3.1 62 a1.toNatClampNeg) - (1 : Int32)) M5 (fun r7 M6 => (r7 = 0 → post (0 : Int32) M6) ∧ (¬ r7 = 0 → post (1 : Int32) M6)))))) ∧ (a2 = (2 : Int32) → ((2 : Int32) ≤ (M3.1 62 a1.toNatClampNeg) → (¬ a2 = (3 : Int32) → ((1 : Int32) = 0 → post (0 : Int32) M3) ∧ (¬ (1 : Int32) = 0 → post (1 : Int32) M3)) ∧ (a2 = (3 : Int32) → ((M3.1 62 a1.toNatClampNeg) ≤ 0 → ((1 : Int32) = 0 → post (0 : Int32) M3) ∧ (¬ (1 : Int32) = 0 → post (1 : Int32) M3)) ∧ (¬ (M3.1 62 a1.toNatClampNeg) ≤ 0 → q_Mo_makeRim a1 M3 (fun M8 => q_Mo_isNought ((M3.1 62 a1.toNatClampNeg) - (1 : Int32)) M8 (fun r10 M9 => (r10 = 0 → post (0 : Int32) M9) ∧ (¬ r10 = 0 → post (1 : Int32) M9)))))) ∧ (¬ (2 : Int32) ≤ (M3.1 62 a1.toNatClampNeg) → q_Mo_makeSlope a1 M3 (fun M11 => q_Mo_isNought ((M3.1 62 a1.toNatClampNeg) + (1 : Int32)) M11 (fun r13 M12 => (r13 = 0 → post (0 : Int32) M12) ∧ (¬ r13 = 0 → post (1 : Int32) M12)))))) ∧ (a2 = (1 : Int32) → ∃ n18, q_Mo_about_L46 (fun x19 M20 => (x19 = 0 → post (0 : Int32) M20) ∧ (¬ x19 = 0 → post (1 : Int32) M20)) post n18 a1 (M3.1 62 a1.toNatClampNeg) (1 : Int32) (0 : Int32) M3)) ∧ (a2 = 0 → post (M3.1 62 a1.toNatClampNeg) M3))) ∧ (r4 = 0 → post (-2 : Int32) M3))))
set_option maxHeartbeats 4000000 in
theorem s_Mo_about {l : Launch} {κ : Kp} {a1 : Int32} {a2 : Int32} {M : Mem} {post : Int32 → Mem → Prop} (hq : q_Mo_about a1 a2 M post) : Ct l κ y_Mo_about b_Mo_about 6 (some .int) 3 [.ref (κ.1 + 56), .int a1, .int a2] M (pI post) := by
  refine Ct_of (by decide) (Nat.le_of_ble_eq_true rfl) (fun γ hγ C R => ?_)
  subst hγ
  unfold q_Mo_about at hq
  show G γ κ 6 (0, 0) (Gq γ κ (pI post)) 0 [(0, .ref (κ.1 + 56)), (1, .int a1), (2, .int a2)] [] M
  refine G_iload_n C 1 d_Mo_about_0 rfl rfl ?_
  refine G_callS C (s_Mo_isForm hq) v_Mo_isForm z_Mo_isForm wd_636 (by decide) rfl (rest := []) (by rfl) (Nat.le_of_ble_eq_true rfl) d_Mo_about_1 (ki_ (fun r2 M1 hq => ?_))
  refine G_if_eq C (tgt := 19) d_Mo_about_4 (by decide) (fun c => ?_) (fun c => ?_)
  · replace hq := hq.1 c
    refine G_bipush C (v := -2) d_Mo_about_19 (by decide) ?_
    exact G_iret C R d_Mo_about_21 ⟨_, rfl, hq⟩
  · replace hq := hq.2 c
    refine G_iload_n C 2 d_Mo_about_7 rfl rfl ?_
    refine G_i2l C d_Mo_about_8 ?_
    refine G_lconst C (v := 0) d_Mo_about_9 (by decide) ?_
    refine G_ldc2 C (v := 3) wd_706 d_Mo_about_10 ?_
    refine G_callS C (s_Mo_in hq) v_Mo_in z_Mo_in wd_605 (by decide) rfl (rest := []) (by rfl) (Nat.le_of_ble_eq_true rfl) d_Mo_about_13 (ki_ (fun r4 M3 hq => ?_))
    refine G_if_ne C (tgt := 22) d_Mo_about_16 (by decide) (fun c => ?_) (fun c => ?_)
    · replace hq := hq.1 c
      refine G_aload_n C 0 d_Mo_about_22 rfl rfl ?_
      refine Gg_Mo_degree C wd_529 d_Mo_about_23 ?_
      refine G_iload_n C 1 d_Mo_about_26 rfl rfl ?_
      refine G_iaload C (k := 62) (by decide) (fun _ _ => rfl) hq.1 d_Mo_about_27 ?_
      replace hq := hq.2
      refine G_istore_n C (lv' := [(3, _), (0, _), (1, _), (2, _)]) d_Mo_about_28 rfl (by decide) rfl ?_
      refine G_iconst C (v := 1) d_Mo_about_29 (by decide) ?_
      refine G_istore C (lv' := [(4, _), (3, _), (0, _), (1, _), (2, _)]) d_Mo_about_30 (by decide) rfl ?_
      refine G_iload_n C 4 d_Mo_about_32 rfl rfl ?_
      refine G_if_ne C (tgt := 38) d_Mo_about_33 (by decide) (fun c => ?_) (fun c => ?_)
      · replace hq := hq.1 c
        refine G_iload_n C 4 d_Mo_about_38 rfl rfl ?_
        refine G_iconst C (v := 1) d_Mo_about_39 (by decide) ?_
        refine G_icmp_ne C (tgt := 89) d_Mo_about_40 (by decide) (fun c => ?_) (fun c => ?_)
        · replace hq := hq.1 c
          refine G_iload_n C 4 d_Mo_about_89 rfl rfl ?_
          refine G_iconst C (v := 2) d_Mo_about_90 (by decide) ?_
          refine G_icmp_ne C (tgt := 116) d_Mo_about_91 (by decide) (fun c => ?_) (fun c => ?_)
          · replace hq := hq.1 c
            refine G_iload_n C 4 d_Mo_about_116 rfl rfl ?_
            refine G_iconst C (v := 3) d_Mo_about_117 (by decide) ?_
            refine G_icmp_ne C (tgt := 139) d_Mo_about_118 (by decide) (fun c => ?_) (fun c => ?_)
            · replace hq := hq.1 c
              refine G_iload C 0 d_Mo_about_139 rfl ?_
              refine G_if_eq C (tgt := 148) d_Mo_about_141 (by decide) (fun c => ?_) (fun c => ?_)
              · replace hq := hq.1 c
                refine G_iconst C (v := 0) d_Mo_about_148 (by decide) ?_
                exact G_iret C R d_Mo_about_149 ⟨_, rfl, hq⟩
              · replace hq := hq.2 c
                refine G_iconst C (v := 1) d_Mo_about_144 (by decide) ?_
                refine G_goto C (tgt := 149) d_Mo_about_145 (by decide) ?_
                exact G_iret C R d_Mo_about_149 ⟨_, rfl, hq⟩
            · replace hq := hq.2 c
              refine G_iload_n C 1 d_Mo_about_121 rfl rfl ?_
              refine G_if_le C (tgt := 139) d_Mo_about_122 (by decide) (fun c => ?_) (fun c => ?_)
              · replace hq := hq.1 c
                refine G_iload C 0 d_Mo_about_139 rfl ?_
                refine G_if_eq C (tgt := 148) d_Mo_about_141 (by decide) (fun c => ?_) (fun c => ?_)
                · replace hq := hq.1 c
                  refine G_iconst C (v := 0) d_Mo_about_148 (by decide) ?_
                  exact G_iret C R d_Mo_about_149 ⟨_, rfl, hq⟩
                · replace hq := hq.2 c
                  refine G_iconst C (v := 1) d_Mo_about_144 (by decide) ?_
                  refine G_goto C (tgt := 149) d_Mo_about_145 (by decide) ?_
                  exact G_iret C R d_Mo_about_149 ⟨_, rfl, hq⟩
              · replace hq := hq.2 c
                refine G_aload_n C 2 d_Mo_about_125 rfl rfl ?_
                refine G_iload_n C 3 d_Mo_about_126 rfl rfl ?_
                refine G_callV C (s_Mo_makeRim hq) v_Mo_makeRim i_Mo_makeRim z_Mo_makeRim wd_684 (by decide) rfl (k := 56) (ci := 7) (by decide) rfl rfl rfl (rest := []) (by rfl) (Nat.le_of_ble_eq_true rfl) d_Mo_about_127 (kv_ (fun M5 hq => ?_))
                refine G_aload_n C 2 d_Mo_about_130 rfl rfl ?_
                refine G_iload_n C 1 d_Mo_about_131 rfl rfl ?_
                refine G_iconst C (v := 1) d_Mo_about_132 (by decide) ?_
                refine G_isub C d_Mo_about_133 ?_
                refine G_callV C (s_Mo_isNought hq) v_Mo_isNought i_Mo_isNought z_Mo_isNought wd_707 (by decide) rfl (k := 56) (ci := 7) (by decide) rfl rfl rfl (rest := []) (by rfl) (Nat.le_of_ble_eq_true rfl) d_Mo_about_134 (ki_ (fun r7 M6 hq => ?_))
                refine G_istore C (lv' := [(4, _), (3, _), (0, _), (1, _), (2, _)]) d_Mo_about_137 (by decide) rfl ?_
                refine G_iload C 0 d_Mo_about_139 rfl ?_
                refine G_if_eq C (tgt := 148) d_Mo_about_141 (by decide) (fun c => ?_) (fun c => ?_)
                · replace hq := hq.1 c
                  refine G_iconst C (v := 0) d_Mo_about_148 (by decide) ?_
                  exact G_iret C R d_Mo_about_149 ⟨_, rfl, hq⟩
                · replace hq := hq.2 c
                  refine G_iconst C (v := 1) d_Mo_about_144 (by decide) ?_
                  refine G_goto C (tgt := 149) d_Mo_about_145 (by decide) ?_
                  exact G_iret C R d_Mo_about_149 ⟨_, rfl, hq⟩
          · replace hq := hq.2 c
            refine G_iload_n C 1 d_Mo_about_94 rfl rfl ?_
            refine G_iconst C (v := 2) d_Mo_about_95 (by decide) ?_
            refine G_icmp_ge C (tgt := 116) d_Mo_about_96 (by decide) (fun c => ?_) (fun c => ?_)
            · replace hq := hq.1 c
              refine G_iload_n C 4 d_Mo_about_116 rfl rfl ?_
              refine G_iconst C (v := 3) d_Mo_about_117 (by decide) ?_
              refine G_icmp_ne C (tgt := 139) d_Mo_about_118 (by decide) (fun c => ?_) (fun c => ?_)
              · replace hq := hq.1 c
                refine G_iload C 0 d_Mo_about_139 rfl ?_
                refine G_if_eq C (tgt := 148) d_Mo_about_141 (by decide) (fun c => ?_) (fun c => ?_)
                · replace hq := hq.1 c
                  refine G_iconst C (v := 0) d_Mo_about_148 (by decide) ?_
                  exact G_iret C R d_Mo_about_149 ⟨_, rfl, hq⟩
                · replace hq := hq.2 c
                  refine G_iconst C (v := 1) d_Mo_about_144 (by decide) ?_
                  refine G_goto C (tgt := 149) d_Mo_about_145 (by decide) ?_
                  exact G_iret C R d_Mo_about_149 ⟨_, rfl, hq⟩
              · replace hq := hq.2 c
                refine G_iload_n C 1 d_Mo_about_121 rfl rfl ?_
                refine G_if_le C (tgt := 139) d_Mo_about_122 (by decide) (fun c => ?_) (fun c => ?_)
                · replace hq := hq.1 c
                  refine G_iload C 0 d_Mo_about_139 rfl ?_
                  refine G_if_eq C (tgt := 148) d_Mo_about_141 (by decide) (fun c => ?_) (fun c => ?_)
                  · replace hq := hq.1 c
                    refine G_iconst C (v := 0) d_Mo_about_148 (by decide) ?_
                    exact G_iret C R d_Mo_about_149 ⟨_, rfl, hq⟩
                  · replace hq := hq.2 c
                    refine G_iconst C (v := 1) d_Mo_about_144 (by decide) ?_
                    refine G_goto C (tgt := 149) d_Mo_about_145 (by decide) ?_
                    exact G_iret C R d_Mo_about_149 ⟨_, rfl, hq⟩
                · replace hq := hq.2 c
                  refine G_aload_n C 2 d_Mo_about_125 rfl rfl ?_
                  refine G_iload_n C 3 d_Mo_about_126 rfl rfl ?_
                  refine G_callV C (s_Mo_makeRim hq) v_Mo_makeRim i_Mo_makeRim z_Mo_makeRim wd_684 (by decide) rfl (k := 56) (ci := 7) (by decide) rfl rfl rfl (rest := []) (by rfl) (Nat.le_of_ble_eq_true rfl) d_Mo_about_127 (kv_ (fun M8 hq => ?_))
                  refine G_aload_n C 2 d_Mo_about_130 rfl rfl ?_
                  refine G_iload_n C 1 d_Mo_about_131 rfl rfl ?_
                  refine G_iconst C (v := 1) d_Mo_about_132 (by decide) ?_
                  refine G_isub C d_Mo_about_133 ?_
                  refine G_callV C (s_Mo_isNought hq) v_Mo_isNought i_Mo_isNought z_Mo_isNought wd_707 (by decide) rfl (k := 56) (ci := 7) (by decide) rfl rfl rfl (rest := []) (by rfl) (Nat.le_of_ble_eq_true rfl) d_Mo_about_134 (ki_ (fun r10 M9 hq => ?_))
                  refine G_istore C (lv' := [(4, _), (3, _), (0, _), (1, _), (2, _)]) d_Mo_about_137 (by decide) rfl ?_
                  refine G_iload C 0 d_Mo_about_139 rfl ?_
                  refine G_if_eq C (tgt := 148) d_Mo_about_141 (by decide) (fun c => ?_) (fun c => ?_)
                  · replace hq := hq.1 c
                    refine G_iconst C (v := 0) d_Mo_about_148 (by decide) ?_
                    exact G_iret C R d_Mo_about_149 ⟨_, rfl, hq⟩
                  · replace hq := hq.2 c
                    refine G_iconst C (v := 1) d_Mo_about_144 (by decide) ?_
                    refine G_goto C (tgt := 149) d_Mo_about_145 (by decide) ?_
                    exact G_iret C R d_Mo_about_149 ⟨_, rfl, hq⟩
            · replace hq := hq.2 c
              refine G_aload_n C 2 d_Mo_about_99 rfl rfl ?_
              refine G_iload_n C 3 d_Mo_about_100 rfl rfl ?_
              refine G_callV C (s_Mo_makeSlope hq) v_Mo_makeSlope i_Mo_makeSlope z_Mo_makeSlope wd_664 (by decide) rfl (k := 56) (ci := 7) (by decide) rfl rfl rfl (rest := []) (by rfl) (Nat.le_of_ble_eq_true rfl) d_Mo_about_101 (kv_ (fun M11 hq => ?_))
              refine G_aload_n C 2 d_Mo_about_104 rfl rfl ?_
              refine G_iload_n C 1 d_Mo_about_105 rfl rfl ?_
              refine G_iconst C (v := 1) d_Mo_about_106 (by decide) ?_
              refine G_iadd C d_Mo_about_107 ?_
              refine G_callV C (s_Mo_isNought hq) v_Mo_isNought i_Mo_isNought z_Mo_isNought wd_707 (by decide) rfl (k := 56) (ci := 7) (by decide) rfl rfl rfl (rest := []) (by rfl) (Nat.le_of_ble_eq_true rfl) d_Mo_about_108 (ki_ (fun r13 M12 hq => ?_))
              refine G_istore C (lv' := [(4, _), (3, _), (0, _), (1, _), (2, _)]) d_Mo_about_111 (by decide) rfl ?_
              refine G_goto C (tgt := 139) d_Mo_about_113 (by decide) ?_
              refine G_iload C 0 d_Mo_about_139 rfl ?_
              refine G_if_eq C (tgt := 148) d_Mo_about_141 (by decide) (fun c => ?_) (fun c => ?_)
              · replace hq := hq.1 c
                refine G_iconst C (v := 0) d_Mo_about_148 (by decide) ?_
                exact G_iret C R d_Mo_about_149 ⟨_, rfl, hq⟩
              · replace hq := hq.2 c
                refine G_iconst C (v := 1) d_Mo_about_144 (by decide) ?_
                refine G_goto C (tgt := 149) d_Mo_about_145 (by decide) ?_
                exact G_iret C R d_Mo_about_149 ⟨_, rfl, hq⟩
        · replace hq := hq.2 c
          refine G_iconst C (v := 0) d_Mo_about_43 (by decide) ?_
          refine G_istore C (lv' := [(5, _), (4, _), (3, _), (0, _), (1, _), (2, _)]) d_Mo_about_44 (by decide) rfl ?_
          obtain ⟨n18, hq⟩ := hq
          refine G_sub [3, 4, 2, 1, 0] (by rfl) (s_Mo_about_L46 C R ?_ n18 _ _ _ _ _ hq)
          · intro x19 M20 hq
            refine G_goto C (tgt := 139) d_Mo_about_86 (by decide) ?_
            refine G_iload C 0 d_Mo_about_139 rfl ?_
            refine G_if_eq C (tgt := 148) d_Mo_about_141 (by decide) (fun c => ?_) (fun c => ?_)
            · replace hq := hq.1 c
              refine G_iconst C (v := 0) d_Mo_about_148 (by decide) ?_
              exact G_iret C R d_Mo_about_149 ⟨_, rfl, hq⟩
            · replace hq := hq.2 c
              refine G_iconst C (v := 1) d_Mo_about_144 (by decide) ?_
              refine G_goto C (tgt := 149) d_Mo_about_145 (by decide) ?_
              exact G_iret C R d_Mo_about_149 ⟨_, rfl, hq⟩
      · replace hq := hq.2 c
        refine G_iload_n C 1 d_Mo_about_36 rfl rfl ?_
        exact G_iret C R d_Mo_about_37 ⟨_, rfl, hq⟩
    · replace hq := hq.2 c
      refine G_bipush C (v := -2) d_Mo_about_19 (by decide) ?_
      exact G_iret C R d_Mo_about_21 ⟨_, rfl, hq⟩
theorem d_Mo_holes_0 : decode b_Mo_holes 0 = .ok (.iload_n 1, 1) := by decide +kernel
theorem d_Mo_holes_1 : decode b_Mo_holes 1 = .ok (.tableswitch 57 0 2 #[27, 32, 47], 27) := by decide +kernel
theorem d_Mo_holes_28 : decode b_Mo_holes 28 = .ok (.aload_n 0, 1) := by decide +kernel
theorem d_Mo_holes_29 : decode b_Mo_holes 29 = .ok (.invokevirtual 162, 3) := by decide +kernel
theorem d_Mo_holes_32 : decode b_Mo_holes 32 = .ok (.ireturn, 1) := by decide +kernel
theorem d_Mo_holes_33 : decode b_Mo_holes 33 = .ok (.aload_n 0, 1) := by decide +kernel
theorem d_Mo_holes_34 : decode b_Mo_holes 34 = .ok (.getfield 79, 3) := by decide +kernel
theorem d_Mo_holes_37 : decode b_Mo_holes 37 = .ok (.aload_n 0, 1) := by decide +kernel
theorem d_Mo_holes_38 : decode b_Mo_holes 38 = .ok (.invokevirtual 171, 3) := by decide +kernel
theorem d_Mo_holes_41 : decode b_Mo_holes 41 = .ok (.isub, 1) := by decide +kernel
theorem d_Mo_holes_42 : decode b_Mo_holes 42 = .ok (.aload_n 0, 1) := by decide +kernel
theorem d_Mo_holes_43 : decode b_Mo_holes 43 = .ok (.invokevirtual 174, 3) := by decide +kernel
theorem d_Mo_holes_46 : decode b_Mo_holes 46 = .ok (.isub, 1) := by decide +kernel
theorem d_Mo_holes_47 : decode b_Mo_holes 47 = .ok (.ireturn, 1) := by decide +kernel
theorem d_Mo_holes_48 : decode b_Mo_holes 48 = .ok (.aload_n 0, 1) := by decide +kernel
theorem d_Mo_holes_49 : decode b_Mo_holes 49 = .ok (.getfield 82, 3) := by decide +kernel
theorem d_Mo_holes_52 : decode b_Mo_holes 52 = .ok (.aload_n 0, 1) := by decide +kernel
theorem d_Mo_holes_53 : decode b_Mo_holes 53 = .ok (.invokevirtual 174, 3) := by decide +kernel
theorem d_Mo_holes_56 : decode b_Mo_holes 56 = .ok (.isub, 1) := by decide +kernel
theorem d_Mo_holes_57 : decode b_Mo_holes 57 = .ok (.ireturn, 1) := by decide +kernel
theorem d_Mo_holes_58 : decode b_Mo_holes 58 = .ok (.bipush (-2), 2) := by decide +kernel
theorem d_Mo_holes_60 : decode b_Mo_holes 60 = .ok (.ireturn, 1) := by decide +kernel
def q_Mo_holes (a1 : Int32) (M : Mem) (post : Int32 → Mem → Prop) : Prop := (a1 = nI 0 → q_Mo_parts M (fun r2 M1 => post r2 M1)) ∧ (a1 = nI 1 → q_Mo_slopeRank M (fun r4 M3 => q_Mo_turnRank M3 (fun r6 M5 => post (((M.1 56 1) - r4) - r6) M5))) ∧ (a1 = nI 2 → q_Mo_turnRank M (fun r8 M7 => post ((M.1 56 2) - r8) M7)) ∧ (((a1).toInt < 0 ∨ 2 < (a1).toInt) → post (-2 : Int32) M)
set_option maxHeartbeats 4000000 in
theorem s_Mo_holes {l : Launch} {κ : Kp} {a1 : Int32} {M : Mem} {post : Int32 → Mem → Prop} (hq : q_Mo_holes a1 M post) : Ct l κ y_Mo_holes b_Mo_holes 2 (some .int) 3 [.ref (κ.1 + 56), .int a1] M (pI post) := by
  refine Ct_of (by decide) (Nat.le_of_ble_eq_true rfl) (fun γ hγ C R => ?_)
  subst hγ
  unfold q_Mo_holes at hq
  show G γ κ 2 (0, 0) (Gq γ κ (pI post)) 0 [(0, .ref (κ.1 + 56)), (1, .int a1)] [] M
  refine G_iload_n C 1 d_Mo_holes_0 rfl rfl ?_
  refine G_switch C (hi := 2) (tg := fun i => [28, 33, 48].getD i 0) (dt := 58) d_Mo_holes_1 (by decide) (by decide) (fun i hi c => ?_) (fun c => ?_)
  · match i, hi, c with
    | 0, _, c =>
      replace hq := hq.1 c
      refine G_aload_n C 0 d_Mo_holes_28 rfl rfl ?_
      refine G_callV C (s_Mo_parts hq) v_Mo_parts i_Mo_parts z_Mo_parts wd_715 (by decide) rfl (k := 56) (ci := 7) (by decide) rfl rfl rfl (rest := []) (by rfl) (Nat.le_of_ble_eq_true rfl) d_Mo_holes_29 (ki_ (fun r2 M1 hq => ?_))
      exact G_iret C R d_Mo_holes_32 ⟨_, rfl, hq⟩
    | 1, _, c =>
      replace hq := hq.2.1 c
      refine G_aload_n C 0 d_Mo_holes_33 rfl rfl ?_
      refine Gg_Mo_edges C wd_522 d_Mo_holes_34 ?_
      refine G_aload_n C 0 d_Mo_holes_37 rfl rfl ?_
      refine G_callV C (s_Mo_slopeRank hq) v_Mo_slopeRank i_Mo_slopeRank z_Mo_slopeRank wd_723 (by decide) rfl (k := 56) (ci := 7) (by decide) rfl rfl rfl (rest := [_]) (by rfl) (Nat.le_of_ble_eq_true rfl) d_Mo_holes_38 (ki_ (fun r4 M3 hq => ?_))
      refine G_isub C d_Mo_holes_41 ?_
      refine G_aload_n C 0 d_Mo_holes_42 rfl rfl ?_
      refine G_callV C (s_Mo_turnRank hq) v_Mo_turnRank i_Mo_turnRank z_Mo_turnRank wd_727 (by decide) rfl (k := 56) (ci := 7) (by decide) rfl rfl rfl (rest := [_]) (by rfl) (Nat.le_of_ble_eq_true rfl) d_Mo_holes_43 (ki_ (fun r6 M5 hq => ?_))
      refine G_isub C d_Mo_holes_46 ?_
      exact G_iret C R d_Mo_holes_47 ⟨_, rfl, hq⟩
    | 2, _, c =>
      replace hq := hq.2.2.1 c
      refine G_aload_n C 0 d_Mo_holes_48 rfl rfl ?_
      refine Gg_Mo_faces C wd_523 d_Mo_holes_49 ?_
      refine G_aload_n C 0 d_Mo_holes_52 rfl rfl ?_
      refine G_callV C (s_Mo_turnRank hq) v_Mo_turnRank i_Mo_turnRank z_Mo_turnRank wd_727 (by decide) rfl (k := 56) (ci := 7) (by decide) rfl rfl rfl (rest := [_]) (by rfl) (Nat.le_of_ble_eq_true rfl) d_Mo_holes_53 (ki_ (fun r8 M7 hq => ?_))
      refine G_isub C d_Mo_holes_56 ?_
      exact G_iret C R d_Mo_holes_57 ⟨_, rfl, hq⟩
  · replace hq := hq.2.2.2 c
    refine G_bipush C (v := -2) d_Mo_holes_58 (by decide) ?_
    exact G_iret C R d_Mo_holes_60 ⟨_, rfl, hq⟩
