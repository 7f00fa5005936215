theorem d_Mo_wave_0 : decode b_Mo_wave 0 = .ok (.iload_n 1, 1) := by decide +kernel
theorem d_Mo_wave_1 : decode b_Mo_wave 1 = .ok (.ifCond .eq 17, 3) := by decide +kernel
theorem d_Mo_wave_4 : decode b_Mo_wave 4 = .ok (.iload_n 1, 1) := by decide +kernel
theorem d_Mo_wave_5 : decode b_Mo_wave 5 = .ok (.i2l, 1) := by decide +kernel
theorem d_Mo_wave_6 : decode b_Mo_wave 6 = .ok (.ldc2_w 209, 3) := by decide +kernel
theorem d_Mo_wave_9 : decode b_Mo_wave 9 = .ok (.ldc2_w 211, 3) := by decide +kernel
theorem d_Mo_wave_12 : decode b_Mo_wave 12 = .ok (.invokestatic 75, 3) := by decide +kernel
theorem d_Mo_wave_15 : decode b_Mo_wave 15 = .ok (.ifCond .ne 6, 3) := by decide +kernel
theorem d_Mo_wave_18 : decode b_Mo_wave 18 = .ok (.bipush (-2), 2) := by decide +kernel
theorem d_Mo_wave_20 : decode b_Mo_wave 20 = .ok (.ireturn, 1) := by decide +kernel
theorem d_Mo_wave_21 : decode b_Mo_wave 21 = .ok (.iconst 0, 1) := by decide +kernel
theorem d_Mo_wave_22 : decode b_Mo_wave 22 = .ok (.istore_n 2, 1) := by decide +kernel
theorem d_Mo_wave_23 : decode b_Mo_wave 23 = .ok (.iload_n 2, 1) := by decide +kernel
theorem d_Mo_wave_24 : decode b_Mo_wave 24 = .ok (.iload_n 1, 1) := by decide +kernel
theorem d_Mo_wave_25 : decode b_Mo_wave 25 = .ok (.if_icmp .ge 19, 3) := by decide +kernel
theorem d_Mo_wave_28 : decode b_Mo_wave 28 = .ok (.aload_n 0, 1) := by decide +kernel
theorem d_Mo_wave_29 : decode b_Mo_wave 29 = .ok (.lconst 1, 1) := by decide +kernel
theorem d_Mo_wave_30 : decode b_Mo_wave 30 = .ok (.invokevirtual 213, 3) := by decide +kernel
theorem d_Mo_wave_33 : decode b_Mo_wave 33 = .ok (.aload_n 0, 1) := by decide +kernel
theorem d_Mo_wave_34 : decode b_Mo_wave 34 = .ok (.lconst 1, 1) := by decide +kernel
theorem d_Mo_wave_35 : decode b_Mo_wave 35 = .ok (.invokevirtual 217, 3) := by decide +kernel
theorem d_Mo_wave_38 : decode b_Mo_wave 38 = .ok (.iinc 2 1, 3) := by decide +kernel
theorem d_Mo_wave_41 : decode b_Mo_wave 41 = .ok (.goto (-18), 3) := by decide +kernel
theorem d_Mo_wave_44 : decode b_Mo_wave 44 = .ok (.iload_n 1, 1) := by decide +kernel
theorem d_Mo_wave_45 : decode b_Mo_wave 45 = .ok (.istore_n 2, 1) := by decide +kernel
theorem d_Mo_wave_46 : decode b_Mo_wave 46 = .ok (.iload_n 2, 1) := by decide +kernel
theorem d_Mo_wave_47 : decode b_Mo_wave 47 = .ok (.ifCond .ge 23, 3) := by decide +kernel
theorem d_Mo_wave_50 : decode b_Mo_wave 50 = .ok (.aload_n 0, 1) := by decide +kernel
theorem d_Mo_wave_51 : decode b_Mo_wave 51 = .ok (.ldc2_w 169, 3) := by decide +kernel
theorem d_Mo_wave_54 : decode b_Mo_wave 54 = .ok (.invokevirtual 217, 3) := by decide +kernel
theorem d_Mo_wave_57 : decode b_Mo_wave 57 = .ok (.aload_n 0, 1) := by decide +kernel
theorem d_Mo_wave_58 : decode b_Mo_wave 58 = .ok (.ldc2_w 169, 3) := by decide +kernel
theorem d_Mo_wave_61 : decode b_Mo_wave 61 = .ok (.invokevirtual 213, 3) := by decide +kernel
theorem d_Mo_wave_64 : decode b_Mo_wave 64 = .ok (.iinc 2 1, 3) := by decide +kernel
theorem d_Mo_wave_67 : decode b_Mo_wave 67 = .ok (.goto (-21), 3) := by decide +kernel
theorem d_Mo_wave_70 : decode b_Mo_wave 70 = .ok (.aload_n 0, 1) := by decide +kernel
theorem d_Mo_wave_71 : decode b_Mo_wave 71 = .ok (.dup, 1) := by decide +kernel
theorem d_Mo_wave_72 : decode b_Mo_wave 72 = .ok (.getfield 85, 3) := by decide +kernel
theorem d_Mo_wave_75 : decode b_Mo_wave 75 = .ok (.iload_n 1, 1) := by decide +kernel
theorem d_Mo_wave_76 : decode b_Mo_wave 76 = .ok (.iadd, 1) := by decide +kernel
theorem d_Mo_wave_77 : decode b_Mo_wave 77 = .ok (.putfield 85, 3) := by decide +kernel
theorem d_Mo_wave_80 : decode b_Mo_wave 80 = .ok (.aload_n 0, 1) := by decide +kernel
theorem d_Mo_wave_81 : decode b_Mo_wave 81 = .ok (.getfield 85, 3) := by decide +kernel
theorem d_Mo_wave_84 : decode b_Mo_wave 84 = .ok (.ireturn, 1) := by decide +kernel
def q_Mo_wave_L23 (kx44 : Int32 → Mem → Prop) (post : Int32 → Mem → Prop) : Nat → Int32 → Int32 → Mem → Prop
  | 0, _, _, _ => False
  | n + 1, x1, x2, M => (x1 ≤ x2 → kx44 x1 M) ∧ (¬ x1 ≤ x2 → q_Mo_flows (1 : Int64) M (fun M3 => q_Mo_rises (1 : Int64) M3 (fun M4 => q_Mo_wave_L23 kx44 post n x1 (x2 + 1) M4)))
set_option maxHeartbeats 4000000 in
theorem s_Mo_wave_L23 {γ : Gm} {κ : Kp} {post : Int32 → Mem → Prop} {kx44 : Int32 → Mem → Prop} (C : Cx γ κ "NetFormsModel" b_Mo_wave 3 1 (0, 0)) (R : Rt γ (some .int)) (hx44 : ∀ y1 M', kx44 y1 M' → G γ κ 3 (0, 0) (Gq γ κ (pI post)) 44 [(0, .ref (κ.1 + 56)), (1, .int y1)] [] M') : ∀ (n : Nat) (x1 : Int32) (x2 : Int32) (M : Mem), q_Mo_wave_L23 kx44 post n x1 x2 M → G γ κ 3 (0, 0) (Gq γ κ (pI post)) 23 [(0, .ref (κ.1 + 56)), (1, .int x1), (2, .int x2)] [] M := by
  intro n
  induction n with
  | zero => intro x1 x2 M hq; exact hq.elim
  | succ n ih =>
    intro x1 x2 M hq
    unfold q_Mo_wave_L23 at hq
    refine G_iload_n C 2 d_Mo_wave_23 rfl rfl ?_
    refine G_iload_n C 1 d_Mo_wave_24 rfl rfl ?_
    refine G_icmp_ge C (tgt := 44) d_Mo_wave_25 (by decide) (fun c => ?_) (fun c => ?_)
    · replace hq := hq.1 c
      exact G_sub [0, 1] (by rfl) (hx44 _ _ hq)
    · replace hq := hq.2 c
      refine G_aload_n C 0 d_Mo_wave_28 rfl rfl ?_
      refine G_lconst C (v := 1) d_Mo_wave_29 (by decide) ?_
      refine G_callV C (s_Mo_flows hq) v_Mo_flows i_Mo_flows z_Mo_flows wd_798 (by decide) rfl (k := 56) (ci := 7) (by decide) rfl rfl rfl (rest := []) (by rfl) (Nat.le_of_ble_eq_true rfl) d_Mo_wave_30 (kv_ (fun M3 hq => ?_))
      refine G_aload_n C 0 d_Mo_wave_33 rfl rfl ?_
      refine G_lconst C (v := 1) d_Mo_wave_34 (by decide) ?_
      refine G_callV C (s_Mo_rises hq) v_Mo_rises i_Mo_rises z_Mo_rises wd_802 (by decide) rfl (k := 56) (ci := 7) (by decide) rfl rfl rfl (rest := []) (by rfl) (Nat.le_of_ble_eq_true rfl) d_Mo_wave_35 (kv_ (fun M4 hq => ?_))
      refine G_iinc C (v := _ + 1) (lv' := [(2, _), (0, _), (1, _)]) 2 d_Mo_wave_38 rfl rfl (by decide) rfl ?_
      refine G_goto C (tgt := 23) d_Mo_wave_41 (by decide) ?_
      exact G_sub [1, 2, 0] (by rfl) (ih _ _ _ hq)
def q_Mo_wave_L46 (kx70 : Int32 → Mem → Prop) (post : Int32 → Mem → Prop) : Nat → Int32 → Int32 → Mem → Prop
  | 0, _, _, _ => False
  | n + 1, x1, x2, M => (0 ≤ x2 → kx70 x1 M) ∧ (¬ 0 ≤ x2 → q_Mo_rises (-1 : Int64) M (fun M8 => q_Mo_flows (-1 : Int64) M8 (fun M9 => q_Mo_wave_L46 kx70 post n x1 (x2 + 1) M9)))
set_option maxHeartbeats 4000000 in
theorem s_Mo_wave_L46 {γ : Gm} {κ : Kp} {post : Int32 → Mem → Prop} {kx70 : Int32 → Mem → Prop} (C : Cx γ κ "NetFormsModel" b_Mo_wave 3 1 (0, 0)) (R : Rt γ (some .int)) (hx70 : ∀ y1 M', kx70 y1 M' → G γ κ 3 (0, 0) (Gq γ κ (pI post)) 70 [(0, .ref (κ.1 + 56)), (1, .int y1)] [] M') : ∀ (n : Nat) (x1 : Int32) (x2 : Int32) (M : Mem), q_Mo_wave_L46 kx70 post n x1 x2 M → G γ κ 3 (0, 0) (Gq γ κ (pI post)) 46 [(0, .ref (κ.1 + 56)), (1, .int x1), (2, .int x2)] [] M := by
  intro n
  induction n with
  | zero => intro x1 x2 M hq; exact hq.elim
  | succ n ih =>
    intro x1 x2 M hq
    unfold q_Mo_wave_L46 at hq
    refine G_iload_n C 2 d_Mo_wave_46 rfl rfl ?_
    refine G_if_ge C (tgt := 70) d_Mo_wave_47 (by decide) (fun c => ?_) (fun c => ?_)
    · replace hq := hq.1 c
      exact G_sub [0, 1] (by rfl) (hx70 _ _ hq)
    · replace hq := hq.2 c
      refine G_aload_n C 0 d_Mo_wave_50 rfl rfl ?_
      refine G_ldc2 C (v := -1) wd_735 d_Mo_wave_51 ?_
      refine G_callV C (s_Mo_rises hq) v_Mo_rises i_Mo_rises z_Mo_rises wd_802 (by decide) rfl (k := 56) (ci := 7) (by decide) rfl rfl rfl (rest := []) (by rfl) (Nat.le_of_ble_eq_true rfl) d_Mo_wave_54 (kv_ (fun M8 hq => ?_))
      refine G_aload_n C 0 d_Mo_wave_57 rfl rfl ?_
      refine G_ldc2 C (v := -1) wd_735 d_Mo_wave_58 ?_
      refine G_callV C (s_Mo_flows hq) v_Mo_flows i_Mo_flows z_Mo_flows wd_798 (by decide) rfl (k := 56) (ci := 7) (by decide) rfl rfl rfl (rest := []) (by rfl) (Nat.le_of_ble_eq_true rfl) d_Mo_wave_61 (kv_ (fun M9 hq => ?_))
      refine G_iinc C (v := _ + 1) (lv' := [(2, _), (0, _), (1, _)]) 2 d_Mo_wave_64 rfl rfl (by decide) rfl ?_
      refine G_goto C (tgt := 46) d_Mo_wave_67 (by decide) ?_
      exact G_sub [1, 2, 0] (by rfl) (ih _ _ _ hq)
def q_Mo_wave (a1 : Int32) (M : Mem) (post : Int32 → Mem → Prop) : Prop := (a1 = 0 → post (-2 : Int32) M) ∧ (¬ a1 = 0 → q_Mo_in a1.toInt64 (-100 : Int64) (100 : Int64) M (fun r2 M1 => (¬ r2 = 0 → ∃ n5, q_Mo_wave_L23 (fun x6 M7 => ∃ n10, q_Mo_wave_L46 (fun x11 M12 => ∀ M13, M13 = wI M12 56 14 ((M12.1 56 14) + x11) → post (M13.1 56 14) M13) post n10 x6 x6 M7) post n5 a1 (0 : Int32) M1) ∧ (r2 = 0 → post (-2 : Int32) M1)))
set_option maxHeartbeats 4000000 in
theorem s_Mo_wave {l : Launch} {κ : Kp} {a1 : Int32} {M : Mem} {post : Int32 → Mem → Prop} (hq : q_Mo_wave a1 M post) : Ct l κ y_Mo_wave b_Mo_wave 3 (some .int) 1 [.ref (κ.1 + 56), .int a1] M (pI post) := by
  refine Ct_of (by decide) (Nat.le_of_ble_eq_true rfl) (fun γ hγ C R => ?_)
  subst hγ
  unfold q_Mo_wave at hq
  show G γ κ 3 (0, 0) (Gq γ κ (pI post)) 0 [(0, .ref (κ.1 + 56)), (1, .int a1)] [] M
  refine G_iload_n C 1 d_Mo_wave_0 rfl rfl ?_
  refine G_if_eq C (tgt := 18) d_Mo_wave_1 (by decide) (fun c => ?_) (fun c => ?_)
  · replace hq := hq.1 c
    refine G_bipush C (v := -2) d_Mo_wave_18 (by decide) ?_
    exact G_iret C R d_Mo_wave_20 ⟨_, rfl, hq⟩
  · replace hq := hq.2 c
    refine G_iload_n C 1 d_Mo_wave_4 rfl rfl ?_
    refine G_i2l C d_Mo_wave_5 ?_
    refine G_ldc2 C (v := -100) wd_796 d_Mo_wave_6 ?_
    refine G_ldc2 C (v := 100) wd_797 d_Mo_wave_9 ?_
    refine G_callS C (s_Mo_in hq) v_Mo_in z_Mo_in wd_605 (by decide) rfl (rest := []) (by rfl) (Nat.le_of_ble_eq_true rfl) d_Mo_wave_12 (ki_ (fun r2 M1 hq => ?_))
    refine G_if_ne C (tgt := 21) d_Mo_wave_15 (by decide) (fun c => ?_) (fun c => ?_)
    · replace hq := hq.1 c
      refine G_iconst C (v := 0) d_Mo_wave_21 (by decide) ?_
      refine G_istore_n C (lv' := [(2, _), (0, _), (1, _)]) d_Mo_wave_22 rfl (by decide) rfl ?_
      obtain ⟨n5, hq⟩ := hq
      refine G_sub [1, 2, 0] (by rfl) (s_Mo_wave_L23 C R ?_ n5 _ _ _ hq)
      · intro x6 M7 hq
        refine G_iload_n C 1 d_Mo_wave_44 rfl rfl ?_
        refine G_istore_n C (lv' := [(2, _), (0, _), (1, _)]) d_Mo_wave_45 rfl (by decide) rfl ?_
        obtain ⟨n10, hq⟩ := hq
        refine G_sub [1, 2, 0] (by rfl) (s_Mo_wave_L46 C R ?_ n10 _ _ _ hq)
        · intro x11 M12 hq
          refine G_aload_n C 0 d_Mo_wave_70 rfl rfl ?_
          refine G_dup C d_Mo_wave_71 rfl ?_
          refine Gg_Mo_steps C wd_535 d_Mo_wave_72 ?_
          refine G_iload_n C 1 d_Mo_wave_75 rfl rfl ?_
          refine G_iadd C d_Mo_wave_76 ?_
          refine Gp_Mo_steps C wd_535 d_Mo_wave_77 ?_
          replace hq := hq _ rfl
          refine G_aload_n C 0 d_Mo_wave_80 rfl rfl ?_
          refine Gg_Mo_steps C wd_535 d_Mo_wave_81 ?_
          exact G_iret C R d_Mo_wave_84 ⟨_, rfl, hq⟩
    · replace hq := hq.2 c
      refine G_bipush C (v := -2) d_Mo_wave_18 (by decide) ?_
      exact G_iret C R d_Mo_wave_20 ⟨_, rfl, hq⟩
theorem d_Mo_flow_0 : decode b_Mo_flow 0 = .ok (.iload_n 1, 1) := by decide +kernel
theorem d_Mo_flow_1 : decode b_Mo_flow 1 = .ok (.i2l, 1) := by decide +kernel
theorem d_Mo_flow_2 : decode b_Mo_flow 2 = .ok (.lconst 0, 1) := by decide +kernel
theorem d_Mo_flow_3 : decode b_Mo_flow 3 = .ok (.aload_n 0, 1) := by decide +kernel
theorem d_Mo_flow_4 : decode b_Mo_flow 4 = .ok (.getfield 79, 3) := by decide +kernel
theorem d_Mo_flow_7 : decode b_Mo_flow 7 = .ok (.iconst 1, 1) := by decide +kernel
theorem d_Mo_flow_8 : decode b_Mo_flow 8 = .ok (.isub, 1) := by decide +kernel
theorem d_Mo_flow_9 : decode b_Mo_flow 9 = .ok (.i2l, 1) := by decide +kernel
theorem d_Mo_flow_10 : decode b_Mo_flow 10 = .ok (.invokestatic 75, 3) := by decide +kernel
theorem d_Mo_flow_13 : decode b_Mo_flow 13 = .ok (.ifCond .eq 12, 3) := by decide +kernel
theorem d_Mo_flow_16 : decode b_Mo_flow 16 = .ok (.aload_n 0, 1) := by decide +kernel
theorem d_Mo_flow_17 : decode b_Mo_flow 17 = .ok (.getfield 46, 3) := by decide +kernel
theorem d_Mo_flow_20 : decode b_Mo_flow 20 = .ok (.iload_n 1, 1) := by decide +kernel
theorem d_Mo_flow_21 : decode b_Mo_flow 21 = .ok (.laload, 1) := by decide +kernel
theorem d_Mo_flow_22 : decode b_Mo_flow 22 = .ok (.goto 4, 3) := by decide +kernel
theorem d_Mo_flow_25 : decode b_Mo_flow 25 = .ok (.lconst 0, 1) := by decide +kernel
theorem d_Mo_flow_26 : decode b_Mo_flow 26 = .ok (.lreturn, 1) := by decide +kernel
def q_Mo_flow (a1 : Int32) (M : Mem) (post : Int64 → Mem → Prop) : Prop := q_Mo_in a1.toInt64 (0 : Int64) (((M.1 56 1) - (1 : Int32)).toInt64) M (fun r2 M1 => (r2 = 0 → post (0 : Int64) M1) ∧ (¬ r2 = 0 → vp_in a1 12 ∧ (post (M1.2 67 a1.toNatClampNeg) M1)))
set_option maxHeartbeats 4000000 in
theorem s_Mo_flow {l : Launch} {κ : Kp} {a1 : Int32} {M : Mem} {post : Int64 → Mem → Prop} (hq : q_Mo_flow a1 M post) : Ct l κ y_Mo_flow b_Mo_flow 2 (some .long) 1 [.ref (κ.1 + 56), .int a1] M (pJ post) := by
  refine Ct_of (by decide) (Nat.le_of_ble_eq_true rfl) (fun γ hγ C R => ?_)
  subst hγ
  unfold q_Mo_flow at hq
  show G γ κ 2 (0, 0) (Gq γ κ (pJ post)) 0 [(0, .ref (κ.1 + 56)), (1, .int a1)] [] M
  refine G_iload_n C 1 d_Mo_flow_0 rfl rfl ?_
  refine G_i2l C d_Mo_flow_1 ?_
  refine G_lconst C (v := 0) d_Mo_flow_2 (by decide) ?_
  refine G_aload_n C 0 d_Mo_flow_3 rfl rfl ?_
  refine Gg_Mo_edges C wd_522 d_Mo_flow_4 ?_
  refine G_iconst C (v := 1) d_Mo_flow_7 (by decide) ?_
  refine G_isub C d_Mo_flow_8 ?_
  refine G_i2l C d_Mo_flow_9 ?_
  refine G_callS C (s_Mo_in hq) v_Mo_in z_Mo_in wd_605 (by decide) rfl (rest := []) (by rfl) (Nat.le_of_ble_eq_true rfl) d_Mo_flow_10 (ki_ (fun r2 M1 hq => ?_))
  refine G_if_eq C (tgt := 25) d_Mo_flow_13 (by decide) (fun c => ?_) (fun c => ?_)
  · replace hq := hq.1 c
    refine G_lconst C (v := 0) d_Mo_flow_25 (by decide) ?_
    exact G_lret C R d_Mo_flow_26 ⟨_, rfl, hq⟩
  · replace hq := hq.2 c
    refine G_aload_n C 0 d_Mo_flow_16 rfl rfl ?_
    refine Gg_Mo_flow C wd_534 d_Mo_flow_17 ?_
    refine G_iload_n C 1 d_Mo_flow_20 rfl rfl ?_
    refine G_laload C (k := 67) (by decide) (fun _ _ => rfl) hq.1 d_Mo_flow_21 ?_
    replace hq := hq.2
    refine G_goto C (tgt := 26) d_Mo_flow_22 (by decide) ?_
    exact G_lret C R d_Mo_flow_26 ⟨_, rfl, hq⟩
theorem d_Nf_net_0 : decode b_Nf_net 0 = .ok (.iload_n 1, 1) := by decide +kernel
theorem d_Nf_net_1 : decode b_Nf_net 1 = .ok (.iconst 1, 1) := by decide +kernel
theorem d_Nf_net_2 : decode b_Nf_net 2 = .ok (.if_icmp .lt 9, 3) := by decide +kernel
theorem d_Nf_net_5 : decode b_Nf_net 5 = .ok (.iload_n 1, 1) := by decide +kernel
theorem d_Nf_net_6 : decode b_Nf_net 6 = .ok (.bipush 6, 2) := by decide +kernel
theorem d_Nf_net_8 : decode b_Nf_net 8 = .ok (.if_icmp .le 6, 3) := by decide +kernel
theorem d_Nf_net_11 : decode b_Nf_net 11 = .ok (.bipush (-2), 2) := by decide +kernel
theorem d_Nf_net_13 : decode b_Nf_net 13 = .ok (.ireturn, 1) := by decide +kernel
theorem d_Nf_net_14 : decode b_Nf_net 14 = .ok (.aload_n 0, 1) := by decide +kernel
theorem d_Nf_net_15 : decode b_Nf_net 15 = .ok (.getfield 10, 3) := by decide +kernel
theorem d_Nf_net_18 : decode b_Nf_net 18 = .ok (.iload_n 1, 1) := by decide +kernel
theorem d_Nf_net_19 : decode b_Nf_net 19 = .ok (.invokevirtual 55, 3) := by decide +kernel
theorem d_Nf_net_22 : decode b_Nf_net 22 = .ok (.iconst 0, 1) := by decide +kernel
theorem d_Nf_net_23 : decode b_Nf_net 23 = .ok (.istore_n 2, 1) := by decide +kernel
theorem d_Nf_net_24 : decode b_Nf_net 24 = .ok (.iload_n 2, 1) := by decide +kernel
theorem d_Nf_net_25 : decode b_Nf_net 25 = .ok (.bipush 12, 2) := by decide +kernel
theorem d_Nf_net_27 : decode b_Nf_net 27 = .ok (.if_icmp .ge 19, 3) := by decide +kernel
theorem d_Nf_net_30 : decode b_Nf_net 30 = .ok (.aload_n 0, 1) := by decide +kernel
theorem d_Nf_net_31 : decode b_Nf_net 31 = .ok (.getfield 18, 3) := by decide +kernel
theorem d_Nf_net_34 : decode b_Nf_net 34 = .ok (.iload_n 2, 1) := by decide +kernel
theorem d_Nf_net_35 : decode b_Nf_net 35 = .ok (.aaload, 1) := by decide +kernel
theorem d_Nf_net_36 : decode b_Nf_net 36 = .ok (.iconst 0, 1) := by decide +kernel
theorem d_Nf_net_37 : decode b_Nf_net 37 = .ok (.invokevirtual 59, 3) := by decide +kernel
theorem d_Nf_net_40 : decode b_Nf_net 40 = .ok (.iinc 2 1, 3) := by decide +kernel
theorem d_Nf_net_43 : decode b_Nf_net 43 = .ok (.goto (-19), 3) := by decide +kernel
theorem d_Nf_net_46 : decode b_Nf_net 46 = .ok (.aload_n 0, 1) := by decide +kernel
theorem d_Nf_net_47 : decode b_Nf_net 47 = .ok (.getfield 25, 3) := by decide +kernel
theorem d_Nf_net_50 : decode b_Nf_net 50 = .ok (.invokevirtual 60, 3) := by decide +kernel
theorem d_Nf_net_53 : decode b_Nf_net 53 = .ok (.aload_n 0, 1) := by decide +kernel
theorem d_Nf_net_54 : decode b_Nf_net 54 = .ok (.getfield 32, 3) := by decide +kernel
theorem d_Nf_net_57 : decode b_Nf_net 57 = .ok (.invokevirtual 62, 3) := by decide +kernel
theorem d_Nf_net_60 : decode b_Nf_net 60 = .ok (.iconst 1, 1) := by decide +kernel
theorem d_Nf_net_61 : decode b_Nf_net 61 = .ok (.ireturn, 1) := by decide +kernel
def q_Nf_net_L24 (kx46 : Mem → Prop) (post : Int32 → Mem → Prop) : Nat → Int32 → Mem → Prop
  | 0, _, _ => False
  | n + 1, x2, M => ((12 : Int32) ≤ x2 → kx46 M) ∧ (¬ (12 : Int32) ≤ x2 → vp_in x2 12 ∧ (q_Frm_begin x2.toNatClampNeg (0 : Int32) M (fun M3 => q_Nf_net_L24 kx46 post n (x2 + 1) M3)))
set_option maxHeartbeats 4000000 in
theorem s_Nf_net_L24 {γ : Gm} {κ : Kp} {post : Int32 → Mem → Prop} {kx46 : Mem → Prop} (C : Cx γ κ "NetForms" b_Nf_net 3 2 (0, 0)) (R : Rt γ (some .int)) (hx46 : ∀ M', kx46 M' → G γ κ 3 (0, 0) (Gq γ κ (pI post)) 46 [(0, .ref (κ.1 + 0))] [] M') : ∀ (n : Nat) (x2 : Int32) (M : Mem), q_Nf_net_L24 kx46 post n x2 M → G γ κ 3 (0, 0) (Gq γ κ (pI post)) 24 [(0, .ref (κ.1 + 0)), (2, .int x2)] [] M := by
  intro n
  induction n with
  | zero => intro x2 M hq; exact hq.elim
  | succ n ih =>
    intro x2 M hq
    unfold q_Nf_net_L24 at hq
    refine G_iload_n C 1 d_Nf_net_24 rfl rfl ?_
    refine G_bipush C (v := 12) d_Nf_net_25 (by decide) ?_
    refine G_icmp_ge C (tgt := 46) d_Nf_net_27 (by decide) (fun c => ?_) (fun c => ?_)
    · replace hq := hq.1 c
      exact G_sub [0] (by rfl) (hx46 _ hq)
    · replace hq := hq.2 c
      refine G_aload_n C 0 d_Nf_net_30 rfl rfl ?_
      refine Gg_Nf_forms C wd_164 d_Nf_net_31 ?_
      refine G_iload_n C 1 d_Nf_net_34 rfl rfl ?_
      have hr2 := hq.1
      replace hq := hq.2
      refine G_aaF C hr2 d_Nf_net_35 ?_
      refine G_iconst C (v := 0) d_Nf_net_36 (by decide) ?_
      refine G_callV C (s_Frm_begin (vp_lt hr2) hq) v_Frm_begin i_Frm_begin z_Frm_begin wd_189 (by decide) rfl (k := _) (ci := 2) (by have := (vp_lt hr2); omega) (sh_formO κ (vp_lt hr2) _ _) rfl rfl (rest := []) (by rfl) (Nat.le_of_ble_eq_true rfl) d_Nf_net_37 (kv_ (fun M3 hq => ?_))
      refine G_iinc C (v := _ + 1) (lv' := [(2, _), (0, _)]) 1 d_Nf_net_40 rfl rfl (by decide) rfl ?_
      refine G_goto C (tgt := 24) d_Nf_net_43 (by decide) ?_
      exact G_sub [1, 0] (by rfl) (ih _ _ hq)
def q_Nf_net (a1 : Int32) (M : Mem) (post : Int32 → Mem → Prop) : Prop := (a1 < (1 : Int32) → post (-2 : Int32) M) ∧ (¬ a1 < (1 : Int32) → (a1 ≤ (6 : Int32) → q_Net_begin a1 M (fun M1 => ∃ n4, q_Nf_net_L24 (fun M5 => q_Wal_begin M5 (fun M6 => q_Wav_begin M6 (fun M7 => post (1 : Int32) M7))) post n4 (0 : Int32) M1)) ∧ (¬ a1 ≤ (6 : Int32) → post (-2 : Int32) M))
set_option maxHeartbeats 4000000 in
theorem s_Nf_net {l : Launch} {κ : Kp} {a1 : Int32} {M : Mem} {post : Int32 → Mem → Prop} (hq : q_Nf_net a1 M post) : Ct l κ y_Nf_net b_Nf_net 3 (some .int) 2 [.ref (κ.1 + 0), .int a1] M (pI post) := by
  refine Ct_of (by decide) (Nat.le_of_ble_eq_true rfl) (fun γ hγ C R => ?_)
  subst hγ
  unfold q_Nf_net at hq
  show G γ κ 3 (0, 0) (Gq γ κ (pI post)) 0 [(0, .ref (κ.1 + 0)), (1, .int a1)] [] M
  refine G_iload_n C 1 d_Nf_net_0 rfl rfl ?_
  refine G_iconst C (v := 1) d_Nf_net_1 (by decide) ?_
  refine G_icmp_lt C (tgt := 11) d_Nf_net_2 (by decide) (fun c => ?_) (fun c => ?_)
  · replace hq := hq.1 c
    refine G_bipush C (v := -2) d_Nf_net_11 (by decide) ?_
    exact G_iret C R d_Nf_net_13 ⟨_, rfl, hq⟩
  · replace hq := hq.2 c
    refine G_iload_n C 1 d_Nf_net_5 rfl rfl ?_
    refine G_bipush C (v := 6) d_Nf_net_6 (by decide) ?_
    refine G_icmp_le C (tgt := 14) d_Nf_net_8 (by decide) (fun c => ?_) (fun c => ?_)
    · replace hq := hq.1 c
      refine G_aload_n C 0 d_Nf_net_14 rfl rfl ?_
      refine Gg_Nf_shape C wd_163 d_Nf_net_15 ?_
      refine G_iload_n C 1 d_Nf_net_18 rfl rfl ?_
      refine G_callV C (s_Net_begin hq) v_Net_begin i_Net_begin z_Net_begin wd_159 (by decide) rfl (k := 1) (ci := 3) (by decide) rfl rfl rfl (rest := []) (by rfl) (Nat.le_of_ble_eq_true rfl) d_Nf_net_19 (kv_ (fun M1 hq => ?_))
      refine G_iconst C (v := 0) d_Nf_net_22 (by decide) ?_
      refine G_istore_n C (lv' := [(2, _), (0, _), (1, _)]) d_Nf_net_23 rfl (by decide) rfl ?_
      obtain ⟨n4, hq⟩ := hq
      refine G_sub [1, 0] (by rfl) (s_Nf_net_L24 C R ?_ n4 _ _ hq)
      · intro M5 hq
        refine G_aload_n C 0 d_Nf_net_46 rfl rfl ?_
        refine Gg_Nf_walls C wd_165 d_Nf_net_47 ?_
        refine G_callV C (s_Wal_begin hq) v_Wal_begin i_Wal_begin z_Wal_begin wd_196 (by decide) rfl (k := 9) (ci := 4) (by decide) rfl rfl rfl (rest := []) (by rfl) (Nat.le_of_ble_eq_true rfl) d_Nf_net_50 (kv_ (fun M6 hq => ?_))
        refine G_aload_n C 0 d_Nf_net_53 rfl rfl ?_
        refine Gg_Nf_motion C wd_166 d_Nf_net_54 ?_
        refine G_callV C (s_Wav_begin hq) v_Wav_begin i_Wav_begin z_Wav_begin wd_200 (by decide) rfl (k := 12) (ci := 5) (by decide) rfl rfl rfl (rest := []) (by rfl) (Nat.le_of_ble_eq_true rfl) d_Nf_net_57 (kv_ (fun M7 hq => ?_))
        refine G_iconst C (v := 1) d_Nf_net_60 (by decide) ?_
        exact G_iret C R d_Nf_net_61 ⟨_, rfl, hq⟩
    · replace hq := hq.2 c
      refine G_bipush C (v := -2) d_Nf_net_11 (by decide) ?_
      exact G_iret C R d_Nf_net_13 ⟨_, rfl, hq⟩
theorem d_Nf_edge_0 : decode b_Nf_edge 0 = .ok (.aload_n 0, 1) := by decide +kernel
theorem d_Nf_edge_1 : decode b_Nf_edge 1 = .ok (.getfield 10, 3) := by decide +kernel
theorem d_Nf_edge_4 : decode b_Nf_edge 4 = .ok (.iconst 0, 1) := by decide +kernel
theorem d_Nf_edge_5 : decode b_Nf_edge 5 = .ok (.iload_n 1, 1) := by decide +kernel
theorem d_Nf_edge_6 : decode b_Nf_edge 6 = .ok (.invokevirtual 63, 3) := by decide +kernel
theorem d_Nf_edge_9 : decode b_Nf_edge 9 = .ok (.ifCond .eq 20, 3) := by decide +kernel
theorem d_Nf_edge_12 : decode b_Nf_edge 12 = .ok (.aload_n 0, 1) := by decide +kernel
theorem d_Nf_edge_13 : decode b_Nf_edge 13 = .ok (.getfield 10, 3) := by decide +kernel
theorem d_Nf_edge_16 : decode b_Nf_edge 16 = .ok (.iconst 0, 1) := by decide +kernel
theorem d_Nf_edge_17 : decode b_Nf_edge 17 = .ok (.iload_n 2, 1) := by decide +kernel
theorem d_Nf_edge_18 : decode b_Nf_edge 18 = .ok (.invokevirtual 63, 3) := by decide +kernel
theorem d_Nf_edge_21 : decode b_Nf_edge 21 = .ok (.ifCond .eq 8, 3) := by decide +kernel
theorem d_Nf_edge_24 : decode b_Nf_edge 24 = .ok (.iload_n 1, 1) := by decide +kernel
theorem d_Nf_edge_25 : decode b_Nf_edge 25 = .ok (.iload_n 2, 1) := by decide +kernel
theorem d_Nf_edge_26 : decode b_Nf_edge 26 = .ok (.if_icmp .lt 6, 3) := by decide +kernel
theorem d_Nf_edge_29 : decode b_Nf_edge 29 = .ok (.bipush (-2), 2) := by decide +kernel
theorem d_Nf_edge_31 : decode b_Nf_edge 31 = .ok (.ireturn, 1) := by decide +kernel
theorem d_Nf_edge_32 : decode b_Nf_edge 32 = .ok (.aload_n 0, 1) := by decide +kernel
theorem d_Nf_edge_33 : decode b_Nf_edge 33 = .ok (.getfield 10, 3) := by decide +kernel
theorem d_Nf_edge_36 : decode b_Nf_edge 36 = .ok (.iload_n 1, 1) := by decide +kernel
theorem d_Nf_edge_37 : decode b_Nf_edge 37 = .ok (.iload_n 2, 1) := by decide +kernel
theorem d_Nf_edge_38 : decode b_Nf_edge 38 = .ok (.invokevirtual 67, 3) := by decide +kernel
theorem d_Nf_edge_41 : decode b_Nf_edge 41 = .ok (.iconst (-1), 1) := by decide +kernel
theorem d_Nf_edge_42 : decode b_Nf_edge 42 = .ok (.if_icmp .eq 6, 3) := by decide +kernel
theorem d_Nf_edge_45 : decode b_Nf_edge 45 = .ok (.bipush (-3), 2) := by decide +kernel
theorem d_Nf_edge_47 : decode b_Nf_edge 47 = .ok (.ireturn, 1) := by decide +kernel
theorem d_Nf_edge_48 : decode b_Nf_edge 48 = .ok (.aload_n 0, 1) := by decide +kernel
theorem d_Nf_edge_49 : decode b_Nf_edge 49 = .ok (.getfield 10, 3) := by decide +kernel
theorem d_Nf_edge_52 : decode b_Nf_edge 52 = .ok (.getfield 71, 3) := by decide +kernel
theorem d_Nf_edge_55 : decode b_Nf_edge 55 = .ok (.bipush 12, 2) := by decide +kernel
theorem d_Nf_edge_57 : decode b_Nf_edge 57 = .ok (.if_icmp .lt 6, 3) := by decide +kernel
theorem d_Nf_edge_60 : decode b_Nf_edge 60 = .ok (.bipush (-4), 2) := by decide +kernel
theorem d_Nf_edge_62 : decode b_Nf_edge 62 = .ok (.ireturn, 1) := by decide +kernel
theorem d_Nf_edge_63 : decode b_Nf_edge 63 = .ok (.aload_n 0, 1) := by decide +kernel
theorem d_Nf_edge_64 : decode b_Nf_edge 64 = .ok (.getfield 10, 3) := by decide +kernel
theorem d_Nf_edge_67 : decode b_Nf_edge 67 = .ok (.iload_n 1, 1) := by decide +kernel
theorem d_Nf_edge_68 : decode b_Nf_edge 68 = .ok (.iload_n 2, 1) := by decide +kernel
theorem d_Nf_edge_69 : decode b_Nf_edge 69 = .ok (.invokevirtual 75, 3) := by decide +kernel
theorem d_Nf_edge_72 : decode b_Nf_edge 72 = .ok (.ireturn, 1) := by decide +kernel
def q_Nf_edge (a1 : Int32) (a2 : Int32) (M : Mem) (post : Int32 → Mem → Prop) : Prop := q_Net_has (0 : Int32) a1 M (fun r2 M1 => (r2 = 0 → post (-2 : Int32) M1) ∧ (¬ r2 = 0 → q_Net_has (0 : Int32) a2 M1 (fun r4 M3 => (r4 = 0 → post (-2 : Int32) M3) ∧ (¬ r4 = 0 → (a1 < a2 → q_Net_edgeBetween a1 a2 M3 (fun r6 M5 => (r6 = (-1 : Int32) → ((M5.1 1 1) < (12 : Int32) → q_Net_addEdge a1 a2 M5 (fun r8 M7 => post r8 M7)) ∧ (¬ (M5.1 1 1) < (12 : Int32) → post (-4 : Int32) M5)) ∧ (¬ r6 = (-1 : Int32) → post (-3 : Int32) M5))) ∧ (¬ a1 < a2 → post (-2 : Int32) M3)))))
set_option maxHeartbeats 4000000 in
theorem s_Nf_edge {l : Launch} {κ : Kp} {a1 : Int32} {a2 : Int32} {M : Mem} {post : Int32 → Mem → Prop} (hq : q_Nf_edge a1 a2 M post) : Ct l κ y_Nf_edge b_Nf_edge 3 (some .int) 2 [.ref (κ.1 + 0), .int a1, .int a2] M (pI post) := by
  refine Ct_of (by decide) (Nat.le_of_ble_eq_true rfl) (fun γ hγ C R => ?_)
  subst hγ
  unfold q_Nf_edge at hq
  show G γ κ 3 (0, 0) (Gq γ κ (pI post)) 0 [(0, .ref (κ.1 + 0)), (1, .int a1), (2, .int a2)] [] M
  refine G_aload_n C 0 d_Nf_edge_0 rfl rfl ?_
  refine Gg_Nf_shape C wd_163 d_Nf_edge_1 ?_
  refine G_iconst C (v := 0) d_Nf_edge_4 (by decide) ?_
  refine G_iload_n C 1 d_Nf_edge_5 rfl rfl ?_
  refine G_callV C (s_Net_has hq) v_Net_has i_Net_has z_Net_has wd_211 (by decide) rfl (k := 1) (ci := 3) (by decide) rfl rfl rfl (rest := []) (by rfl) (Nat.le_of_ble_eq_true rfl) d_Nf_edge_6 (ki_ (fun r2 M1 hq => ?_))
  refine G_if_eq C (tgt := 29) d_Nf_edge_9 (by decide) (fun c => ?_) (fun c => ?_)
  · replace hq := hq.1 c
    refine G_bipush C (v := -2) d_Nf_edge_29 (by decide) ?_
    exact G_iret C R d_Nf_edge_31 ⟨_, rfl, hq⟩
  · replace hq := hq.2 c
    refine G_aload_n C 0 d_Nf_edge_12 rfl rfl ?_
    refine Gg_Nf_shape C wd_163 d_Nf_edge_13 ?_
    refine G_iconst C (v := 0) d_Nf_edge_16 (by decide) ?_
    refine G_iload_n C 2 d_Nf_edge_17 rfl rfl ?_
    refine G_callV C (s_Net_has hq) v_Net_has i_Net_has z_Net_has wd_211 (by decide) rfl (k := 1) (ci := 3) (by decide) rfl rfl rfl (rest := []) (by rfl) (Nat.le_of_ble_eq_true rfl) d_Nf_edge_18 (ki_ (fun r4 M3 hq => ?_))
    refine G_if_eq C (tgt := 29) d_Nf_edge_21 (by decide) (fun c => ?_) (fun c => ?_)
    · replace hq := hq.1 c
      refine G_bipush C (v := -2) d_Nf_edge_29 (by decide) ?_
      exact G_iret C R d_Nf_edge_31 ⟨_, rfl, hq⟩
    · replace hq := hq.2 c
      refine G_iload_n C 1 d_Nf_edge_24 rfl rfl ?_
      refine G_iload_n C 2 d_Nf_edge_25 rfl rfl ?_
      refine G_icmp_lt C (tgt := 32) d_Nf_edge_26 (by decide) (fun c => ?_) (fun c => ?_)
      · replace hq := hq.1 c
        refine G_aload_n C 0 d_Nf_edge_32 rfl rfl ?_
        refine Gg_Nf_shape C wd_163 d_Nf_edge_33 ?_
        refine G_iload_n C 1 d_Nf_edge_36 rfl rfl ?_
        refine G_iload_n C 2 d_Nf_edge_37 rfl rfl ?_
        refine G_callV C (s_Net_edgeBetween hq) v_Net_edgeBetween i_Net_edgeBetween z_Net_edgeBetween wd_219 (by decide) rfl (k := 1) (ci := 3) (by decide) rfl rfl rfl (rest := []) (by rfl) (Nat.le_of_ble_eq_true rfl) d_Nf_edge_38 (ki_ (fun r6 M5 hq => ?_))
        refine G_iconst C (v := -1) d_Nf_edge_41 (by decide) ?_
        refine G_icmp_eq C (tgt := 48) d_Nf_edge_42 (by decide) (fun c => ?_) (fun c => ?_)
        · replace hq := hq.1 c
          refine G_aload_n C 0 d_Nf_edge_48 rfl rfl ?_
          refine Gg_Nf_shape C wd_163 d_Nf_edge_49 ?_
          refine Gg_Net_edges C wd_31 d_Nf_edge_52 ?_
          refine G_bipush C (v := 12) d_Nf_edge_55 (by decide) ?_
          refine G_icmp_lt C (tgt := 63) d_Nf_edge_57 (by decide) (fun c => ?_) (fun c => ?_)
          · replace hq := hq.1 c
            refine G_aload_n C 0 d_Nf_edge_63 rfl rfl ?_
            refine Gg_Nf_shape C wd_163 d_Nf_edge_64 ?_
            refine G_iload_n C 1 d_Nf_edge_67 rfl rfl ?_
            refine G_iload_n C 2 d_Nf_edge_68 rfl rfl ?_
            refine G_callV C (s_Net_addEdge hq) v_Net_addEdge i_Net_addEdge z_Net_addEdge wd_223 (by decide) rfl (k := 1) (ci := 3) (by decide) rfl rfl rfl (rest := []) (by rfl) (Nat.le_of_ble_eq_true rfl) d_Nf_edge_69 (ki_ (fun r8 M7 hq => ?_))
            exact G_iret C R d_Nf_edge_72 ⟨_, rfl, hq⟩
          · replace hq := hq.2 c
            refine G_bipush C (v := -4) d_Nf_edge_60 (by decide) ?_
            exact G_iret C R d_Nf_edge_62 ⟨_, rfl, hq⟩
        · replace hq := hq.2 c
          refine G_bipush C (v := -3) d_Nf_edge_45 (by decide) ?_
          exact G_iret C R d_Nf_edge_47 ⟨_, rfl, hq⟩
      · replace hq := hq.2 c
        refine G_bipush C (v := -2) d_Nf_edge_29 (by decide) ?_
        exact G_iret C R d_Nf_edge_31 ⟨_, rfl, hq⟩
theorem d_Nf_face_0 : decode b_Nf_face 0 = .ok (.aload_n 0, 1) := by decide +kernel
theorem d_Nf_face_1 : decode b_Nf_face 1 = .ok (.getfield 10, 3) := by decide +kernel
theorem d_Nf_face_4 : decode b_Nf_face 4 = .ok (.iconst 0, 1) := by decide +kernel
theorem d_Nf_face_5 : decode b_Nf_face 5 = .ok (.iload_n 1, 1) := by decide +kernel
theorem d_Nf_face_6 : decode b_Nf_face 6 = .ok (.invokevirtual 63, 3) := by decide +kernel
theorem d_Nf_face_9 : decode b_Nf_face 9 = .ok (.ifCond .eq 37, 3) := by decide +kernel
theorem d_Nf_face_12 : decode b_Nf_face 12 = .ok (.aload_n 0, 1) := by decide +kernel
theorem d_Nf_face_13 : decode b_Nf_face 13 = .ok (.getfield 10, 3) := by decide +kernel
theorem d_Nf_face_16 : decode b_Nf_face 16 = .ok (.iconst 0, 1) := by decide +kernel
theorem d_Nf_face_17 : decode b_Nf_face 17 = .ok (.iload_n 2, 1) := by decide +kernel
theorem d_Nf_face_18 : decode b_Nf_face 18 = .ok (.invokevirtual 63, 3) := by decide +kernel
theorem d_Nf_face_21 : decode b_Nf_face 21 = .ok (.ifCond .eq 25, 3) := by decide +kernel
theorem d_Nf_face_24 : decode b_Nf_face 24 = .ok (.aload_n 0, 1) := by decide +kernel
theorem d_Nf_face_25 : decode b_Nf_face 25 = .ok (.getfield 10, 3) := by decide +kernel
theorem d_Nf_face_28 : decode b_Nf_face 28 = .ok (.iconst 0, 1) := by decide +kernel
theorem d_Nf_face_29 : decode b_Nf_face 29 = .ok (.iload_n 3, 1) := by decide +kernel
theorem d_Nf_face_30 : decode b_Nf_face 30 = .ok (.invokevirtual 63, 3) := by decide +kernel
theorem d_Nf_face_33 : decode b_Nf_face 33 = .ok (.ifCond .eq 13, 3) := by decide +kernel
theorem d_Nf_face_36 : decode b_Nf_face 36 = .ok (.iload_n 1, 1) := by decide +kernel
theorem d_Nf_face_37 : decode b_Nf_face 37 = .ok (.iload_n 2, 1) := by decide +kernel
theorem d_Nf_face_38 : decode b_Nf_face 38 = .ok (.if_icmp .ge 8, 3) := by decide +kernel
theorem d_Nf_face_41 : decode b_Nf_face 41 = .ok (.iload_n 2, 1) := by decide +kernel
theorem d_Nf_face_42 : decode b_Nf_face 42 = .ok (.iload_n 3, 1) := by decide +kernel
theorem d_Nf_face_43 : decode b_Nf_face 43 = .ok (.if_icmp .lt 6, 3) := by decide +kernel
theorem d_Nf_face_46 : decode b_Nf_face 46 = .ok (.bipush (-2), 2) := by decide +kernel
theorem d_Nf_face_48 : decode b_Nf_face 48 = .ok (.ireturn, 1) := by decide +kernel
theorem d_Nf_face_49 : decode b_Nf_face 49 = .ok (.aload_n 0, 1) := by decide +kernel
theorem d_Nf_face_50 : decode b_Nf_face 50 = .ok (.getfield 10, 3) := by decide +kernel
theorem d_Nf_face_53 : decode b_Nf_face 53 = .ok (.iload_n 1, 1) := by decide +kernel
theorem d_Nf_face_54 : decode b_Nf_face 54 = .ok (.iload_n 2, 1) := by decide +kernel
theorem d_Nf_face_55 : decode b_Nf_face 55 = .ok (.invokevirtual 67, 3) := by decide +kernel
theorem d_Nf_face_58 : decode b_Nf_face 58 = .ok (.istore 4, 2) := by decide +kernel
theorem d_Nf_face_60 : decode b_Nf_face 60 = .ok (.aload_n 0, 1) := by decide +kernel
theorem d_Nf_face_61 : decode b_Nf_face 61 = .ok (.getfield 10, 3) := by decide +kernel
theorem d_Nf_face_64 : decode b_Nf_face 64 = .ok (.iload_n 2, 1) := by decide +kernel
theorem d_Nf_face_65 : decode b_Nf_face 65 = .ok (.iload_n 3, 1) := by decide +kernel
theorem d_Nf_face_66 : decode b_Nf_face 66 = .ok (.invokevirtual 67, 3) := by decide +kernel
theorem d_Nf_face_69 : decode b_Nf_face 69 = .ok (.istore 5, 2) := by decide +kernel
theorem d_Nf_face_71 : decode b_Nf_face 71 = .ok (.aload_n 0, 1) := by decide +kernel
theorem d_Nf_face_72 : decode b_Nf_face 72 = .ok (.getfield 10, 3) := by decide +kernel
theorem d_Nf_face_75 : decode b_Nf_face 75 = .ok (.iload_n 1, 1) := by decide +kernel
theorem d_Nf_face_76 : decode b_Nf_face 76 = .ok (.iload_n 3, 1) := by decide +kernel
theorem d_Nf_face_77 : decode b_Nf_face 77 = .ok (.invokevirtual 67, 3) := by decide +kernel
theorem d_Nf_face_80 : decode b_Nf_face 80 = .ok (.istore 6, 2) := by decide +kernel
theorem d_Nf_face_82 : decode b_Nf_face 82 = .ok (.iload 4, 2) := by decide +kernel
theorem d_Nf_face_84 : decode b_Nf_face 84 = .ok (.iconst (-1), 1) := by decide +kernel
theorem d_Nf_face_85 : decode b_Nf_face 85 = .ok (.if_icmp .eq 29, 3) := by decide +kernel
theorem d_Nf_face_88 : decode b_Nf_face 88 = .ok (.iload 5, 2) := by decide +kernel
theorem d_Nf_face_90 : decode b_Nf_face 90 = .ok (.iconst (-1), 1) := by decide +kernel
theorem d_Nf_face_91 : decode b_Nf_face 91 = .ok (.if_icmp .eq 23, 3) := by decide +kernel
theorem d_Nf_face_94 : decode b_Nf_face 94 = .ok (.iload 6, 2) := by decide +kernel
theorem d_Nf_face_96 : decode b_Nf_face 96 = .ok (.iconst (-1), 1) := by decide +kernel
theorem d_Nf_face_97 : decode b_Nf_face 97 = .ok (.if_icmp .eq 17, 3) := by decide +kernel
theorem d_Nf_face_100 : decode b_Nf_face 100 = .ok (.aload_n 0, 1) := by decide +kernel
theorem d_Nf_face_101 : decode b_Nf_face 101 = .ok (.getfield 10, 3) := by decide +kernel
theorem d_Nf_face_104 : decode b_Nf_face 104 = .ok (.iload 4, 2) := by decide +kernel
theorem d_Nf_face_106 : decode b_Nf_face 106 = .ok (.iload 5, 2) := by decide +kernel
theorem d_Nf_face_108 : decode b_Nf_face 108 = .ok (.invokevirtual 78, 3) := by decide +kernel
theorem d_Nf_face_111 : decode b_Nf_face 111 = .ok (.ifCond .eq 6, 3) := by decide +kernel
theorem d_Nf_face_114 : decode b_Nf_face 114 = .ok (.bipush (-3), 2) := by decide +kernel
theorem d_Nf_face_116 : decode b_Nf_face 116 = .ok (.ireturn, 1) := by decide +kernel
theorem d_Nf_face_117 : decode b_Nf_face 117 = .ok (.aload_n 0, 1) := by decide +kernel
theorem d_Nf_face_118 : decode b_Nf_face 118 = .ok (.getfield 10, 3) := by decide +kernel
theorem d_Nf_face_121 : decode b_Nf_face 121 = .ok (.getfield 81, 3) := by decide +kernel
theorem d_Nf_face_124 : decode b_Nf_face 124 = .ok (.bipush 10, 2) := by decide +kernel
theorem d_Nf_face_126 : decode b_Nf_face 126 = .ok (.if_icmp .lt 6, 3) := by decide +kernel
theorem d_Nf_face_129 : decode b_Nf_face 129 = .ok (.bipush (-4), 2) := by decide +kernel
theorem d_Nf_face_131 : decode b_Nf_face 131 = .ok (.ireturn, 1) := by decide +kernel
theorem d_Nf_face_132 : decode b_Nf_face 132 = .ok (.aload_n 0, 1) := by decide +kernel
theorem d_Nf_face_133 : decode b_Nf_face 133 = .ok (.getfield 10, 3) := by decide +kernel
theorem d_Nf_face_136 : decode b_Nf_face 136 = .ok (.iload 4, 2) := by decide +kernel
theorem d_Nf_face_138 : decode b_Nf_face 138 = .ok (.iload 5, 2) := by decide +kernel
theorem d_Nf_face_140 : decode b_Nf_face 140 = .ok (.iload 6, 2) := by decide +kernel
theorem d_Nf_face_142 : decode b_Nf_face 142 = .ok (.invokevirtual 84, 3) := by decide +kernel
theorem d_Nf_face_145 : decode b_Nf_face 145 = .ok (.ireturn, 1) := by decide +kernel
def q_Nf_face (a1 : Int32) (a2 : Int32) (a3 : Int32) (M : Mem) (post : Int32 → Mem → Prop) : Prop := q_Net_has (0 : Int32) a1 M (fun r2 M1 => (r2 = 0 → post (-2 : Int32) M1) ∧ (¬ r2 = 0 → q_Net_has (0 : Int32) a2 M1 (fun r4 M3 => (r4 = 0 → post (-2 : Int32) M3) ∧ (¬ r4 = 0 → q_Net_has (0 : Int32) a3 M3 (fun r6 M5 => (r6 = 0 → post (-2 : Int32) M5) ∧ (¬ r6 = 0 → (a2 ≤ a1 → post (-2 : Int32) M5) ∧ (¬ a2 ≤ a1 → (a2 < a3 → q_Net_edgeBetween a1 a2 M5 (fun r8 M7 => q_Net_edgeBetween a2 a3 M7 (fun r10 M9 => q_Net_edgeBetween a1 a3 M9 (fun r12 M11 => (r8 = (-1 : Int32) → post (-3 : Int32) M11) ∧ (¬ r8 = (-1 : Int32) → (r10 = (-1 : Int32) → post (-3 : Int32) M11) ∧ (¬ r10 = (-1 : Int32) → (r12 = (-1 : Int32) → post (-3 : Int32) M11) ∧ (¬ r12 = (-1 : Int32) → q_Net_hasPlateOf r8 r10 M11 (fun r14 M13 => (r14 = 0 → ((M13.1 1 2) < (10 : Int32) → q_Net_addPlate r8 r10 r12 M13 (fun r16 M15 => post r16 M15)) ∧ (¬ (M13.1 1 2) < (10 : Int32) → post (-4 : Int32) M13)) ∧ (¬ r14 = 0 → post (-3 : Int32) M13))))))))) ∧ (¬ a2 < a3 → post (-2 : Int32) M5))))))))
set_option maxHeartbeats 4000000 in
theorem s_Nf_face {l : Launch} {κ : Kp} {a1 : Int32} {a2 : Int32} {a3 : Int32} {M : Mem} {post : Int32 → Mem → Prop} (hq : q_Nf_face a1 a2 a3 M post) : Ct l κ y_Nf_face b_Nf_face 7 (some .int) 2 [.ref (κ.1 + 0), .int a1, .int a2, .int a3] M (pI post) := by
  refine Ct_of (by decide) (Nat.le_of_ble_eq_true rfl) (fun γ hγ C R => ?_)
  subst hγ
  unfold q_Nf_face at hq
  show G γ κ 7 (0, 0) (Gq γ κ (pI post)) 0 [(0, .ref (κ.1 + 0)), (1, .int a1), (2, .int a2), (3, .int a3)] [] M
  refine G_aload_n C 0 d_Nf_face_0 rfl rfl ?_
  refine Gg_Nf_shape C wd_163 d_Nf_face_1 ?_
  refine G_iconst C (v := 0) d_Nf_face_4 (by decide) ?_
  refine G_iload_n C 1 d_Nf_face_5 rfl rfl ?_
  refine G_callV C (s_Net_has hq) v_Net_has i_Net_has z_Net_has wd_211 (by decide) rfl (k := 1) (ci := 3) (by decide) rfl rfl rfl (rest := []) (by rfl) (Nat.le_of_ble_eq_true rfl) d_Nf_face_6 (ki_ (fun r2 M1 hq => ?_))
  refine G_if_eq C (tgt := 46) d_Nf_face_9 (by decide) (fun c => ?_) (fun c => ?_)
  · replace hq := hq.1 c
    refine G_bipush C (v := -2) d_Nf_face_46 (by decide) ?_
    exact G_iret C R d_Nf_face_48 ⟨_, rfl, hq⟩
  · replace hq := hq.2 c
    refine G_aload_n C 0 d_Nf_face_12 rfl rfl ?_
    refine Gg_Nf_shape C wd_163 d_Nf_face_13 ?_
    refine G_iconst C (v := 0) d_Nf_face_16 (by decide) ?_
    refine G_iload_n C 2 d_Nf_face_17 rfl rfl ?_
    refine G_callV C (s_Net_has hq) v_Net_has i_Net_has z_Net_has wd_211 (by decide) rfl (k := 1) (ci := 3) (by decide) rfl rfl rfl (rest := []) (by rfl) (Nat.le_of_ble_eq_true rfl) d_Nf_face_18 (ki_ (fun r4 M3 hq => ?_))
    refine G_if_eq C (tgt := 46) d_Nf_face_21 (by decide) (fun c => ?_) (fun c => ?_)
    · replace hq := hq.1 c
      refine G_bipush C (v := -2) d_Nf_face_46 (by decide) ?_
      exact G_iret C R d_Nf_face_48 ⟨_, rfl, hq⟩
    · replace hq := hq.2 c
      refine G_aload_n C 0 d_Nf_face_24 rfl rfl ?_
      refine Gg_Nf_shape C wd_163 d_Nf_face_25 ?_
      refine G_iconst C (v := 0) d_Nf_face_28 (by decide) ?_
      refine G_iload_n C 3 d_Nf_face_29 rfl rfl ?_
      refine G_callV C (s_Net_has hq) v_Net_has i_Net_has z_Net_has wd_211 (by decide) rfl (k := 1) (ci := 3) (by decide) rfl rfl rfl (rest := []) (by rfl) (Nat.le_of_ble_eq_true rfl) d_Nf_face_30 (ki_ (fun r6 M5 hq => ?_))
      refine G_if_eq C (tgt := 46) d_Nf_face_33 (by decide) (fun c => ?_) (fun c => ?_)
      · replace hq := hq.1 c
        refine G_bipush C (v := -2) d_Nf_face_46 (by decide) ?_
        exact G_iret C R d_Nf_face_48 ⟨_, rfl, hq⟩
      · replace hq := hq.2 c
        refine G_iload_n C 1 d_Nf_face_36 rfl rfl ?_
        refine G_iload_n C 2 d_Nf_face_37 rfl rfl ?_
        refine G_icmp_ge C (tgt := 46) d_Nf_face_38 (by decide) (fun c => ?_) (fun c => ?_)
        · replace hq := hq.1 c
          refine G_bipush C (v := -2) d_Nf_face_46 (by decide) ?_
          exact G_iret C R d_Nf_face_48 ⟨_, rfl, hq⟩
        · replace hq := hq.2 c
          refine G_iload_n C 2 d_Nf_face_41 rfl rfl ?_
          refine G_iload_n C 3 d_Nf_face_42 rfl rfl ?_
          refine G_icmp_lt C (tgt := 49) d_Nf_face_43 (by decide) (fun c => ?_) (fun c => ?_)
          · replace hq := hq.1 c
            refine G_aload_n C 0 d_Nf_face_49 rfl rfl ?_
            refine Gg_Nf_shape C wd_163 d_Nf_face_50 ?_
            refine G_iload_n C 1 d_Nf_face_53 rfl rfl ?_
            refine G_iload_n C 2 d_Nf_face_54 rfl rfl ?_
            refine G_callV C (s_Net_edgeBetween hq) v_Net_edgeBetween i_Net_edgeBetween z_Net_edgeBetween wd_219 (by decide) rfl (k := 1) (ci := 3) (by decide) rfl rfl rfl (rest := []) (by rfl) (Nat.le_of_ble_eq_true rfl) d_Nf_face_55 (ki_ (fun r8 M7 hq => ?_))
            refine G_istore C (lv' := [(4, _), (0, _), (1, _), (2, _), (3, _)]) d_Nf_face_58 (by decide) rfl ?_
            refine G_aload_n C 1 d_Nf_face_60 rfl rfl ?_
            refine Gg_Nf_shape C wd_163 d_Nf_face_61 ?_
            refine G_iload_n C 3 d_Nf_face_64 rfl rfl ?_
            refine G_iload_n C 4 d_Nf_face_65 rfl rfl ?_
            refine G_callV C (s_Net_edgeBetween hq) v_Net_edgeBetween i_Net_edgeBetween z_Net_edgeBetween wd_219 (by decide) rfl (k := 1) (ci := 3) (by decide) rfl rfl rfl (rest := []) (by rfl) (Nat.le_of_ble_eq_true rfl) d_Nf_face_66 (ki_ (fun r10 M9 hq => ?_))
            refine G_istore C (lv' := [(5, _), (4, _), (0, _), (1, _), (2, _), (3, _)]) d_Nf_face_69 (by decide) rfl ?_
            refine G_aload_n C 2 d_Nf_face_71 rfl rfl ?_
            refine Gg_Nf_shape C wd_163 d_Nf_face_72 ?_
            refine G_iload_n C 3 d_Nf_face_75 rfl rfl ?_
            refine G_iload_n C 5 d_Nf_face_76 rfl rfl ?_
            refine G_callV C (s_Net_edgeBetween hq) v_Net_edgeBetween i_Net_edgeBetween z_Net_edgeBetween wd_219 (by decide) rfl (k := 1) (ci := 3) (by decide) rfl rfl rfl (rest := []) (by rfl) (Nat.le_of_ble_eq_true rfl) d_Nf_face_77 (ki_ (fun r12 M11 hq => ?_))
            refine G_istore C (lv' := [(6, _), (5, _), (4, _), (0, _), (1, _), (2, _), (3, _)]) d_Nf_face_80 (by decide) rfl ?_
            refine G_iload C 2 d_Nf_face_82 rfl ?_
            refine G_iconst C (v := -1) d_Nf_face_84 (by decide) ?_
            refine G_icmp_eq C (tgt := 114) d_Nf_face_85 (by decide) (fun c => ?_) (fun c => ?_)
            · replace hq := hq.1 c
              refine G_bipush C (v := -3) d_Nf_face_114 (by decide) ?_
              exact G_iret C R d_Nf_face_116 ⟨_, rfl, hq⟩
            · replace hq := hq.2 c
              refine G_iload C 1 d_Nf_face_88 rfl ?_
              refine G_iconst C (v := -1) d_Nf_face_90 (by decide) ?_
              refine G_icmp_eq C (tgt := 114) d_Nf_face_91 (by decide) (fun c => ?_) (fun c => ?_)
              · replace hq := hq.1 c
                refine G_bipush C (v := -3) d_Nf_face_114 (by decide) ?_
                exact G_iret C R d_Nf_face_116 ⟨_, rfl, hq⟩
              · replace hq := hq.2 c
                refine G_iload C 0 d_Nf_face_94 rfl ?_
                refine G_iconst C (v := -1) d_Nf_face_96 (by decide) ?_
                refine G_icmp_eq C (tgt := 114) d_Nf_face_97 (by decide) (fun c => ?_) (fun c => ?_)
                · replace hq := hq.1 c
                  refine G_bipush C (v := -3) d_Nf_face_114 (by decide) ?_
                  exact G_iret C R d_Nf_face_116 ⟨_, rfl, hq⟩
                · replace hq := hq.2 c
                  refine G_aload_n C 3 d_Nf_face_100 rfl rfl ?_
                  refine Gg_Nf_shape C wd_163 d_Nf_face_101 ?_
                  refine G_iload C 2 d_Nf_face_104 rfl ?_
                  refine G_iload C 1 d_Nf_face_106 rfl ?_
                  refine G_callV C (s_Net_hasPlateOf hq) v_Net_hasPlateOf i_Net_hasPlateOf z_Net_hasPlateOf wd_237 (by decide) rfl (k := 1) (ci := 3) (by decide) rfl rfl rfl (rest := []) (by rfl) (Nat.le_of_ble_eq_true rfl) d_Nf_face_108 (ki_ (fun r14 M13 hq => ?_))
                  refine G_if_eq C (tgt := 117) d_Nf_face_111 (by decide) (fun c => ?_) (fun c => ?_)
                  · replace hq := hq.1 c
                    refine G_aload_n C 3 d_Nf_face_117 rfl rfl ?_
                    refine Gg_Nf_shape C wd_163 d_Nf_face_118 ?_
                    refine Gg_Net_plates C wd_33 d_Nf_face_121 ?_
                    refine G_bipush C (v := 10) d_Nf_face_124 (by decide) ?_
                    refine G_icmp_lt C (tgt := 132) d_Nf_face_126 (by decide) (fun c => ?_) (fun c => ?_)
                    · replace hq := hq.1 c
                      refine G_aload_n C 3 d_Nf_face_132 rfl rfl ?_
                      refine Gg_Nf_shape C wd_163 d_Nf_face_133 ?_
                      refine G_iload C 2 d_Nf_face_136 rfl ?_
                      refine G_iload C 1 d_Nf_face_138 rfl ?_
                      refine G_iload C 0 d_Nf_face_140 rfl ?_
                      refine G_callV C (s_Net_addPlate hq) v_Net_addPlate i_Net_addPlate z_Net_addPlate wd_241 (by decide) rfl (k := 1) (ci := 3) (by decide) rfl rfl rfl (rest := []) (by rfl) (Nat.le_of_ble_eq_true rfl) d_Nf_face_142 (ki_ (fun r16 M15 hq => ?_))
                      exact G_iret C R d_Nf_face_145 ⟨_, rfl, hq⟩
                    · replace hq := hq.2 c
                      refine G_bipush C (v := -4) d_Nf_face_129 (by decide) ?_
                      exact G_iret C R d_Nf_face_131 ⟨_, rfl, hq⟩
                  · replace hq := hq.2 c
                    refine G_bipush C (v := -3) d_Nf_face_114 (by decide) ?_
                    exact G_iret C R d_Nf_face_116 ⟨_, rfl, hq⟩
          · replace hq := hq.2 c
            refine G_bipush C (v := -2) d_Nf_face_46 (by decide) ?_
            exact G_iret C R d_Nf_face_48 ⟨_, rfl, hq⟩
theorem d_Nf_corner_0 : decode b_Nf_corner 0 = .ok (.iload_n 1, 1) := by decide +kernel
theorem d_Nf_corner_1 : decode b_Nf_corner 1 = .ok (.iconst 1, 1) := by decide +kernel
theorem d_Nf_corner_2 : decode b_Nf_corner 2 = .ok (.if_icmp .lt 20, 3) := by decide +kernel
theorem d_Nf_corner_5 : decode b_Nf_corner 5 = .ok (.iload_n 1, 1) := by decide +kernel
theorem d_Nf_corner_6 : decode b_Nf_corner 6 = .ok (.iconst 2, 1) := by decide +kernel
theorem d_Nf_corner_7 : decode b_Nf_corner 7 = .ok (.if_icmp .gt 15, 3) := by decide +kernel
theorem d_Nf_corner_10 : decode b_Nf_corner 10 = .ok (.aload_n 0, 1) := by decide +kernel
theorem d_Nf_corner_11 : decode b_Nf_corner 11 = .ok (.getfield 10, 3) := by decide +kernel
theorem d_Nf_corner_14 : decode b_Nf_corner 14 = .ok (.iload_n 1, 1) := by decide +kernel
theorem d_Nf_corner_15 : decode b_Nf_corner 15 = .ok (.iload_n 2, 1) := by decide +kernel
theorem d_Nf_corner_16 : decode b_Nf_corner 16 = .ok (.invokevirtual 63, 3) := by decide +kernel
theorem d_Nf_corner_19 : decode b_Nf_corner 19 = .ok (.ifCond .ne 6, 3) := by decide +kernel
theorem d_Nf_corner_22 : decode b_Nf_corner 22 = .ok (.bipush (-2), 2) := by decide +kernel
theorem d_Nf_corner_24 : decode b_Nf_corner 24 = .ok (.ireturn, 1) := by decide +kernel
theorem d_Nf_corner_25 : decode b_Nf_corner 25 = .ok (.iload_n 3, 1) := by decide +kernel
theorem d_Nf_corner_26 : decode b_Nf_corner 26 = .ok (.ifCond .lt 8, 3) := by decide +kernel
theorem d_Nf_corner_29 : decode b_Nf_corner 29 = .ok (.iload_n 3, 1) := by decide +kernel
theorem d_Nf_corner_30 : decode b_Nf_corner 30 = .ok (.iload_n 1, 1) := by decide +kernel
theorem d_Nf_corner_31 : decode b_Nf_corner 31 = .ok (.if_icmp .le 7, 3) := by decide +kernel
theorem d_Nf_corner_34 : decode b_Nf_corner 34 = .ok (.iconst (-1), 1) := by decide +kernel
theorem d_Nf_corner_35 : decode b_Nf_corner 35 = .ok (.goto 13, 3) := by decide +kernel
theorem d_Nf_corner_38 : decode b_Nf_corner 38 = .ok (.aload_n 0, 1) := by decide +kernel
theorem d_Nf_corner_39 : decode b_Nf_corner 39 = .ok (.getfield 10, 3) := by decide +kernel
theorem d_Nf_corner_42 : decode b_Nf_corner 42 = .ok (.iload_n 1, 1) := by decide +kernel
theorem d_Nf_corner_43 : decode b_Nf_corner 43 = .ok (.iload_n 2, 1) := by decide +kernel
theorem d_Nf_corner_44 : decode b_Nf_corner 44 = .ok (.iload_n 3, 1) := by decide +kernel
theorem d_Nf_corner_45 : decode b_Nf_corner 45 = .ok (.invokevirtual 88, 3) := by decide +kernel
theorem d_Nf_corner_48 : decode b_Nf_corner 48 = .ok (.ireturn, 1) := by decide +kernel
def q_Nf_corner (a1 : Int32) (a2 : Int32) (a3 : Int32) (M : Mem) (post : Int32 → Mem → Prop) : Prop := (a1 < (1 : Int32) → post (-2 : Int32) M) ∧ (¬ a1 < (1 : Int32) → ((2 : Int32) < a1 → post (-2 : Int32) M) ∧ (¬ (2 : Int32) < a1 → q_Net_has a1 a2 M (fun r2 M1 => (¬ r2 = 0 → (a3 < 0 → post (-1 : Int32) M1) ∧ (¬ a3 < 0 → (a3 ≤ a1 → q_Net_pointOf a1 a2 a3 M1 (fun r4 M3 => post r4 M3)) ∧ (¬ a3 ≤ a1 → post (-1 : Int32) M1))) ∧ (r2 = 0 → post (-2 : Int32) M1))))
set_option maxHeartbeats 4000000 in
theorem s_Nf_corner {l : Launch} {κ : Kp} {a1 : Int32} {a2 : Int32} {a3 : Int32} {M : Mem} {post : Int32 → Mem → Prop} (hq : q_Nf_corner a1 a2 a3 M post) : Ct l κ y_Nf_corner b_Nf_corner 4 (some .int) 2 [.ref (κ.1 + 0), .int a1, .int a2, .int a3] M (pI post) := by
  refine Ct_of (by decide) (Nat.le_of_ble_eq_true rfl) (fun γ hγ C R => ?_)
  subst hγ
  unfold q_Nf_corner at hq
  show G γ κ 4 (0, 0) (Gq γ κ (pI post)) 0 [(0, .ref (κ.1 + 0)), (1, .int a1), (2, .int a2), (3, .int a3)] [] M
  refine G_iload_n C 1 d_Nf_corner_0 rfl rfl ?_
  refine G_iconst C (v := 1) d_Nf_corner_1 (by decide) ?_
  refine G_icmp_lt C (tgt := 22) d_Nf_corner_2 (by decide) (fun c => ?_) (fun c => ?_)
  · replace hq := hq.1 c
    refine G_bipush C (v := -2) d_Nf_corner_22 (by decide) ?_
    exact G_iret C R d_Nf_corner_24 ⟨_, rfl, hq⟩
  · replace hq := hq.2 c
    refine G_iload_n C 1 d_Nf_corner_5 rfl rfl ?_
    refine G_iconst C (v := 2) d_Nf_corner_6 (by decide) ?_
    refine G_icmp_gt C (tgt := 22) d_Nf_corner_7 (by decide) (fun c => ?_) (fun c => ?_)
    · replace hq := hq.1 c
      refine G_bipush C (v := -2) d_Nf_corner_22 (by decide) ?_
      exact G_iret C R d_Nf_corner_24 ⟨_, rfl, hq⟩
    · replace hq := hq.2 c
      refine G_aload_n C 0 d_Nf_corner_10 rfl rfl ?_
      refine Gg_Nf_shape C wd_163 d_Nf_corner_11 ?_
      refine G_iload_n C 1 d_Nf_corner_14 rfl rfl ?_
      refine G_iload_n C 2 d_Nf_corner_15 rfl rfl ?_
      refine G_callV C (s_Net_has hq) v_Net_has i_Net_has z_Net_has wd_211 (by decide) rfl (k := 1) (ci := 3) (by decide) rfl rfl rfl (rest := []) (by rfl) (Nat.le_of_ble_eq_true rfl) d_Nf_corner_16 (ki_ (fun r2 M1 hq => ?_))
      refine G_if_ne C (tgt := 25) d_Nf_corner_19 (by decide) (fun c => ?_) (fun c => ?_)
      · replace hq := hq.1 c
        refine G_iload_n C 3 d_Nf_corner_25 rfl rfl ?_
        refine G_if_lt C (tgt := 34) d_Nf_corner_26 (by decide) (fun c => ?_) (fun c => ?_)
        · replace hq := hq.1 c
          refine G_iconst C (v := -1) d_Nf_corner_34 (by decide) ?_
          refine G_goto C (tgt := 48) d_Nf_corner_35 (by decide) ?_
          exact G_iret C R d_Nf_corner_48 ⟨_, rfl, hq⟩
        · replace hq := hq.2 c
          refine G_iload_n C 3 d_Nf_corner_29 rfl rfl ?_
          refine G_iload_n C 1 d_Nf_corner_30 rfl rfl ?_
          refine G_icmp_le C (tgt := 38) d_Nf_corner_31 (by decide) (fun c => ?_) (fun c => ?_)
          · replace hq := hq.1 c
            refine G_aload_n C 0 d_Nf_corner_38 rfl rfl ?_
            refine Gg_Nf_shape C wd_163 d_Nf_corner_39 ?_
            refine G_iload_n C 1 d_Nf_corner_42 rfl rfl ?_
            refine G_iload_n C 2 d_Nf_corner_43 rfl rfl ?_
            refine G_iload_n C 3 d_Nf_corner_44 rfl rfl ?_
            refine G_callV C (s_Net_pointOf hq) v_Net_pointOf i_Net_pointOf z_Net_pointOf wd_249 (by decide) rfl (k := 1) (ci := 3) (by decide) rfl rfl rfl (rest := []) (by rfl) (Nat.le_of_ble_eq_true rfl) d_Nf_corner_45 (ki_ (fun r4 M3 hq => ?_))
            exact G_iret C R d_Nf_corner_48 ⟨_, rfl, hq⟩
          · replace hq := hq.2 c
            refine G_iconst C (v := -1) d_Nf_corner_34 (by decide) ?_
            refine G_goto C (tgt := 48) d_Nf_corner_35 (by decide) ?_
            exact G_iret C R d_Nf_corner_48 ⟨_, rfl, hq⟩
      · replace hq := hq.2 c
        refine G_bipush C (v := -2) d_Nf_corner_22 (by decide) ?_
        exact G_iret C R d_Nf_corner_24 ⟨_, rfl, hq⟩
theorem d_Nf_form_0 : decode b_Nf_form 0 = .ok (.aload_n 0, 1) := by decide +kernel
theorem d_Nf_form_1 : decode b_Nf_form 1 = .ok (.iload_n 1, 1) := by decide +kernel
theorem d_Nf_form_2 : decode b_Nf_form 2 = .ok (.invokevirtual 91, 3) := by decide +kernel
theorem d_Nf_form_5 : decode b_Nf_form 5 = .ok (.astore_n 3, 1) := by decide +kernel
theorem d_Nf_form_6 : decode b_Nf_form 6 = .ok (.aload_n 3, 1) := by decide +kernel
theorem d_Nf_form_7 : decode b_Nf_form 7 = .ok (.ifnull 12, 3) := by decide +kernel
theorem d_Nf_form_10 : decode b_Nf_form 10 = .ok (.iload_n 2, 1) := by decide +kernel
theorem d_Nf_form_11 : decode b_Nf_form 11 = .ok (.ifCond .lt 8, 3) := by decide +kernel
theorem d_Nf_form_14 : decode b_Nf_form 14 = .ok (.iload_n 2, 1) := by decide +kernel
theorem d_Nf_form_15 : decode b_Nf_form 15 = .ok (.iconst 2, 1) := by decide +kernel
theorem d_Nf_form_16 : decode b_Nf_form 16 = .ok (.if_icmp .le 6, 3) := by decide +kernel
theorem d_Nf_form_19 : decode b_Nf_form 19 = .ok (.bipush (-2), 2) := by decide +kernel
theorem d_Nf_form_21 : decode b_Nf_form 21 = .ok (.ireturn, 1) := by decide +kernel
theorem d_Nf_form_22 : decode b_Nf_form 22 = .ok (.aload_n 3, 1) := by decide +kernel
theorem d_Nf_form_23 : decode b_Nf_form 23 = .ok (.iload_n 2, 1) := by decide +kernel
theorem d_Nf_form_24 : decode b_Nf_form 24 = .ok (.invokevirtual 59, 3) := by decide +kernel
theorem d_Nf_form_27 : decode b_Nf_form 27 = .ok (.iconst 1, 1) := by decide +kernel
theorem d_Nf_form_28 : decode b_Nf_form 28 = .ok (.ireturn, 1) := by decide +kernel
def q_Nf_form (a1 : Int32) (a2 : Int32) (M : Mem) (post : Int32 → Mem → Prop) : Prop := q_Nf_formAt a1 M (fun r2 M1 => (r2 = none → post (-2 : Int32) M1) ∧ (∀ i3, r2 = some i3 → i3 < 12 ∧ ((a2 < 0 → post (-2 : Int32) M1) ∧ (¬ a2 < 0 → (a2 ≤ (2 : Int32) → q_Frm_begin i3 a2 M1 (fun M4 => post (1 : Int32) M4)) ∧ (¬ a2 ≤ (2 : Int32) → post (-2 : Int32) M1)))))
set_option maxHeartbeats 4000000 in
theorem s_Nf_form {l : Launch} {κ : Kp} {a1 : Int32} {a2 : Int32} {M : Mem} {post : Int32 → Mem → Prop} (hq : q_Nf_form a1 a2 M post) : Ct l κ y_Nf_form b_Nf_form 4 (some .int) 2 [.ref (κ.1 + 0), .int a1, .int a2] M (pI post) := by
  refine Ct_of (by decide) (Nat.le_of_ble_eq_true rfl) (fun γ hγ C R => ?_)
  subst hγ
  unfold q_Nf_form at hq
  show G γ κ 4 (0, 0) (Gq γ κ (pI post)) 0 [(0, .ref (κ.1 + 0)), (1, .int a1), (2, .int a2)] [] M
  refine G_aload_n C 0 d_Nf_form_0 rfl rfl ?_
  refine G_iload_n C 1 d_Nf_form_1 rfl rfl ?_
  refine G_callV C (s_Nf_formAt hq) v_Nf_formAt i_Nf_formAt z_Nf_formAt wd_257 (by decide) rfl (k := 0) (ci := 6) (by decide) rfl rfl rfl (rest := []) (by rfl) (Nat.le_of_ble_eq_true rfl) d_Nf_form_2 (kf_ (fun r2 M1 hq => ?_))
  refine G_astore_nq C (lv' := [(3, _), (0, _), (1, _), (2, _)]) d_Nf_form_5 rfl (by decide) rfl ?_
  refine G_aload_nq C 0 d_Nf_form_6 rfl rfl ?_
  refine G_ifnullq C (tgt := 19) d_Nf_form_7 (by decide) (fun c => ?_) (fun i3 c => ?_)
  · replace hq := hq.1 c
    refine G_bipush C (v := -2) d_Nf_form_19 (by decide) ?_
    exact G_iret C R d_Nf_form_21 ⟨_, rfl, hq⟩
  · have hz := hq.2 i3 c
    clear hq
    subst c
    obtain ⟨h_i3, hq⟩ := hz
    refine G_iload_n C 3 d_Nf_form_10 rfl rfl ?_
    refine G_if_lt C (tgt := 19) d_Nf_form_11 (by decide) (fun c => ?_) (fun c => ?_)
    · replace hq := hq.1 c
      refine G_bipush C (v := -2) d_Nf_form_19 (by decide) ?_
      exact G_iret C R d_Nf_form_21 ⟨_, rfl, hq⟩
    · replace hq := hq.2 c
      refine G_iload_n C 3 d_Nf_form_14 rfl rfl ?_
      refine G_iconst C (v := 2) d_Nf_form_15 (by decide) ?_
      refine G_icmp_le C (tgt := 22) d_Nf_form_16 (by decide) (fun c => ?_) (fun c => ?_)
      · replace hq := hq.1 c
        refine G_aload_n C 0 d_Nf_form_22 rfl rfl ?_
        refine G_iload_n C 3 d_Nf_form_23 rfl rfl ?_
        refine G_callV C (s_Frm_begin h_i3 hq) v_Frm_begin i_Frm_begin z_Frm_begin wd_189 (by decide) rfl (k := (32 + 2 * i3)) (ci := 2) (by have := h_i3; omega) (sh_formO κ h_i3 _ _) rfl rfl (rest := []) (by rfl) (Nat.le_of_ble_eq_true rfl) d_Nf_form_24 (kv_ (fun M4 hq => ?_))
        refine G_iconst C (v := 1) d_Nf_form_27 (by decide) ?_
        exact G_iret C R d_Nf_form_28 ⟨_, rfl, hq⟩
      · replace hq := hq.2 c
        refine G_bipush C (v := -2) d_Nf_form_19 (by decide) ?_
        exact G_iret C R d_Nf_form_21 ⟨_, rfl, hq⟩
theorem d_Nf_set_0 : decode b_Nf_set 0 = .ok (.aload_n 0, 1) := by decide +kernel
theorem d_Nf_set_1 : decode b_Nf_set 1 = .ok (.iload_n 1, 1) := by decide +kernel
theorem d_Nf_set_2 : decode b_Nf_set 2 = .ok (.invokevirtual 91, 3) := by decide +kernel
theorem d_Nf_set_5 : decode b_Nf_set 5 = .ok (.astore 4, 2) := by decide +kernel
theorem d_Nf_set_7 : decode b_Nf_set 7 = .ok (.aload 4, 2) := by decide +kernel
theorem d_Nf_set_9 : decode b_Nf_set 9 = .ok (.ifnull 29, 3) := by decide +kernel
theorem d_Nf_set_12 : decode b_Nf_set 12 = .ok (.aload_n 0, 1) := by decide +kernel
theorem d_Nf_set_13 : decode b_Nf_set 13 = .ok (.getfield 10, 3) := by decide +kernel
theorem d_Nf_set_16 : decode b_Nf_set 16 = .ok (.aload 4, 2) := by decide +kernel
theorem d_Nf_set_18 : decode b_Nf_set 18 = .ok (.getfield 95, 3) := by decide +kernel
theorem d_Nf_set_21 : decode b_Nf_set 21 = .ok (.iload_n 2, 1) := by decide +kernel
theorem d_Nf_set_22 : decode b_Nf_set 22 = .ok (.invokevirtual 63, 3) := by decide +kernel
theorem d_Nf_set_25 : decode b_Nf_set 25 = .ok (.ifCond .eq 13, 3) := by decide +kernel
theorem d_Nf_set_28 : decode b_Nf_set 28 = .ok (.iload_n 3, 1) := by decide +kernel
theorem d_Nf_set_29 : decode b_Nf_set 29 = .ok (.i2l, 1) := by decide +kernel
theorem d_Nf_set_30 : decode b_Nf_set 30 = .ok (.ldc 98, 2) := by decide +kernel
theorem d_Nf_set_32 : decode b_Nf_set 32 = .ok (.invokestatic 99, 3) := by decide +kernel
theorem d_Nf_set_35 : decode b_Nf_set 35 = .ok (.ifCond .ne 6, 3) := by decide +kernel
theorem d_Nf_set_38 : decode b_Nf_set 38 = .ok (.ldc 103, 2) := by decide +kernel
theorem d_Nf_set_40 : decode b_Nf_set 40 = .ok (.ireturn, 1) := by decide +kernel
theorem d_Nf_set_41 : decode b_Nf_set 41 = .ok (.aload 4, 2) := by decide +kernel
theorem d_Nf_set_43 : decode b_Nf_set 43 = .ok (.getfield 104, 3) := by decide +kernel
theorem d_Nf_set_46 : decode b_Nf_set 46 = .ok (.iload_n 2, 1) := by decide +kernel
theorem d_Nf_set_47 : decode b_Nf_set 47 = .ok (.iaload, 1) := by decide +kernel
theorem d_Nf_set_48 : decode b_Nf_set 48 = .ok (.istore 5, 2) := by decide +kernel
theorem d_Nf_set_50 : decode b_Nf_set 50 = .ok (.aload 4, 2) := by decide +kernel
theorem d_Nf_set_52 : decode b_Nf_set 52 = .ok (.getfield 104, 3) := by decide +kernel
theorem d_Nf_set_55 : decode b_Nf_set 55 = .ok (.iload_n 2, 1) := by decide +kernel
theorem d_Nf_set_56 : decode b_Nf_set 56 = .ok (.iload_n 3, 1) := by decide +kernel
theorem d_Nf_set_57 : decode b_Nf_set 57 = .ok (.iastore, 1) := by decide +kernel
theorem d_Nf_set_58 : decode b_Nf_set 58 = .ok (.iload 5, 2) := by decide +kernel
theorem d_Nf_set_60 : decode b_Nf_set 60 = .ok (.ireturn, 1) := by decide +kernel
def q_Nf_set (a1 : Int32) (a2 : Int32) (a3 : Int32) (M : Mem) (post : Int32 → Mem → Prop) : Prop := q_Nf_formAt a1 M (fun r2 M1 => (r2 = none → post (-2000000 : Int32) M1) ∧ (∀ i3, r2 = some i3 → i3 < 12 ∧ (q_Net_has (M1.1 (32 + 2 * i3) 0) a2 M1 (fun r5 M4 => (r5 = 0 → post (-2000000 : Int32) M4) ∧ (¬ r5 = 0 → q_Nf_isWithin a3.toInt64 (1000000 : Int32) M4 (fun r7 M6 => (¬ r7 = 0 → vp_in a2 12 ∧ (vp_in a2 12 ∧ (∀ M8, M8 = wI M6 (33 + 2 * i3) a2.toNatClampNeg a3 → post (M6.1 (33 + 2 * i3) a2.toNatClampNeg) M8))) ∧ (r7 = 0 → post (-2000000 : Int32) M6)))))))
set_option maxHeartbeats 4000000 in
theorem s_Nf_set {l : Launch} {κ : Kp} {a1 : Int32} {a2 : Int32} {a3 : Int32} {M : Mem} {post : Int32 → Mem → Prop} (hq : q_Nf_set a1 a2 a3 M post) : Ct l κ y_Nf_set b_Nf_set 6 (some .int) 2 [.ref (κ.1 + 0), .int a1, .int a2, .int a3] M (pI post) := by
  refine Ct_of (by decide) (Nat.le_of_ble_eq_true rfl) (fun γ hγ C R => ?_)
  subst hγ
  unfold q_Nf_set at hq
  show G γ κ 6 (0, 0) (Gq γ κ (pI post)) 0 [(0, .ref (κ.1 + 0)), (1, .int a1), (2, .int a2), (3, .int a3)] [] M
  refine G_aload_n C 0 d_Nf_set_0 rfl rfl ?_
  refine G_iload_n C 1 d_Nf_set_1 rfl rfl ?_
  refine G_callV C (s_Nf_formAt hq) v_Nf_formAt i_Nf_formAt z_Nf_formAt wd_257 (by decide) rfl (k := 0) (ci := 6) (by decide) rfl rfl rfl (rest := []) (by rfl) (Nat.le_of_ble_eq_true rfl) d_Nf_set_2 (kf_ (fun r2 M1 hq => ?_))
  refine G_astoreq C (lv' := [(4, _), (0, _), (1, _), (2, _), (3, _)]) d_Nf_set_5 (by decide) rfl ?_
  refine G_aloadq C 0 d_Nf_set_7 rfl ?_
  refine G_ifnullq C (tgt := 38) d_Nf_set_9 (by decide) (fun c => ?_) (fun i3 c => ?_)
  · replace hq := hq.1 c
    refine G_ldc C (v := -2000000) wd_269 d_Nf_set_38 ?_
    exact G_iret C R d_Nf_set_40 ⟨_, rfl, hq⟩
  · have hz := hq.2 i3 c
    clear hq
    subst c
    obtain ⟨h_i3, hq⟩ := hz
    refine G_aload_n C 1 d_Nf_set_12 rfl rfl ?_
    refine Gg_Nf_shape C wd_163 d_Nf_set_13 ?_
    refine G_aload C 0 d_Nf_set_16 rfl ?_
    refine Gg_Frm_degree C h_i3 wd_150 d_Nf_set_18 ?_
    refine G_iload_n C 3 d_Nf_set_21 rfl rfl ?_
    refine G_callV C (s_Net_has hq) v_Net_has i_Net_has z_Net_has wd_211 (by decide) rfl (k := 1) (ci := 3) (by decide) rfl rfl rfl (rest := []) (by rfl) (Nat.le_of_ble_eq_true rfl) d_Nf_set_22 (ki_ (fun r5 M4 hq => ?_))
    refine G_if_eq C (tgt := 38) d_Nf_set_25 (by decide) (fun c => ?_) (fun c => ?_)
    · replace hq := hq.1 c
      refine G_ldc C (v := -2000000) wd_269 d_Nf_set_38 ?_
      exact G_iret C R d_Nf_set_40 ⟨_, rfl, hq⟩
    · replace hq := hq.2 c
      refine G_iload_n C 4 d_Nf_set_28 rfl rfl ?_
      refine G_i2l C d_Nf_set_29 ?_
      refine G_ldc C (v := 1000000) wd_265 d_Nf_set_30 ?_
      refine G_callS C (s_Nf_isWithin hq) v_Nf_isWithin z_Nf_isWithin wd_266 (by decide) rfl (rest := []) (by rfl) (Nat.le_of_ble_eq_true rfl) d_Nf_set_32 (ki_ (fun r7 M6 hq => ?_))
      refine G_if_ne C (tgt := 41) d_Nf_set_35 (by decide) (fun c => ?_) (fun c => ?_)
      · replace hq := hq.1 c
        refine G_aload C 0 d_Nf_set_41 rfl ?_
        refine Gg_Frm_numbers C h_i3 wd_153 d_Nf_set_43 ?_
        refine G_iload_n C 3 d_Nf_set_46 rfl rfl ?_
        refine G_iaload C (by have := h_i3; omega) (sh_formA κ h_i3) hq.1 d_Nf_set_47 ?_
        replace hq := hq.2
        refine G_istore C (lv' := [(5, _), (4, _), (0, _), (1, _), (2, _), (3, _)]) d_Nf_set_48 (by decide) rfl ?_
        refine G_aload C 1 d_Nf_set_50 rfl ?_
        refine Gg_Frm_numbers C h_i3 wd_153 d_Nf_set_52 ?_
        refine G_iload_n C 4 d_Nf_set_55 rfl rfl ?_
        refine G_iload_n C 5 d_Nf_set_56 rfl rfl ?_
        refine G_iastore C (by have := h_i3; omega) (sh_formA κ h_i3) hq.1 d_Nf_set_57 ?_
        replace hq := hq.2 _ rfl
        refine G_iload C 0 d_Nf_set_58 rfl ?_
        exact G_iret C R d_Nf_set_60 ⟨_, rfl, hq⟩
      · replace hq := hq.2 c
        refine G_ldc C (v := -2000000) wd_269 d_Nf_set_38 ?_
        exact G_iret C R d_Nf_set_40 ⟨_, rfl, hq⟩
theorem d_Nf_get_0 : decode b_Nf_get 0 = .ok (.aload_n 0, 1) := by decide +kernel
theorem d_Nf_get_1 : decode b_Nf_get 1 = .ok (.iload_n 1, 1) := by decide +kernel
theorem d_Nf_get_2 : decode b_Nf_get 2 = .ok (.invokevirtual 91, 3) := by decide +kernel
theorem d_Nf_get_5 : decode b_Nf_get 5 = .ok (.astore_n 3, 1) := by decide +kernel
theorem d_Nf_get_6 : decode b_Nf_get 6 = .ok (.aload_n 3, 1) := by decide +kernel
theorem d_Nf_get_7 : decode b_Nf_get 7 = .ok (.ifnull 18, 3) := by decide +kernel
theorem d_Nf_get_10 : decode b_Nf_get 10 = .ok (.aload_n 0, 1) := by decide +kernel
theorem d_Nf_get_11 : decode b_Nf_get 11 = .ok (.getfield 10, 3) := by decide +kernel
theorem d_Nf_get_14 : decode b_Nf_get 14 = .ok (.aload_n 3, 1) := by decide +kernel
theorem d_Nf_get_15 : decode b_Nf_get 15 = .ok (.getfield 95, 3) := by decide +kernel
theorem d_Nf_get_18 : decode b_Nf_get 18 = .ok (.iload_n 2, 1) := by decide +kernel
theorem d_Nf_get_19 : decode b_Nf_get 19 = .ok (.invokevirtual 63, 3) := by decide +kernel
theorem d_Nf_get_22 : decode b_Nf_get 22 = .ok (.ifCond .ne 6, 3) := by decide +kernel
theorem d_Nf_get_25 : decode b_Nf_get 25 = .ok (.ldc 103, 2) := by decide +kernel
theorem d_Nf_get_27 : decode b_Nf_get 27 = .ok (.ireturn, 1) := by decide +kernel
theorem d_Nf_get_28 : decode b_Nf_get 28 = .ok (.aload_n 3, 1) := by decide +kernel
theorem d_Nf_get_29 : decode b_Nf_get 29 = .ok (.getfield 104, 3) := by decide +kernel
theorem d_Nf_get_32 : decode b_Nf_get 32 = .ok (.iload_n 2, 1) := by decide +kernel
theorem d_Nf_get_33 : decode b_Nf_get 33 = .ok (.iaload, 1) := by decide +kernel
theorem d_Nf_get_34 : decode b_Nf_get 34 = .ok (.ireturn, 1) := by decide +kernel
def q_Nf_get (a1 : Int32) (a2 : Int32) (M : Mem) (post : Int32 → Mem → Prop) : Prop := q_Nf_formAt a1 M (fun r2 M1 => (r2 = none → post (-2000000 : Int32) M1) ∧ (∀ i3, r2 = some i3 → i3 < 12 ∧ (q_Net_has (M1.1 (32 + 2 * i3) 0) a2 M1 (fun r5 M4 => (¬ r5 = 0 → vp_in a2 12 ∧ (post (M4.1 (33 + 2 * i3) a2.toNatClampNeg) M4)) ∧ (r5 = 0 → post (-2000000 : Int32) M4)))))
set_option maxHeartbeats 4000000 in
theorem s_Nf_get {l : Launch} {κ : Kp} {a1 : Int32} {a2 : Int32} {M : Mem} {post : Int32 → Mem → Prop} (hq : q_Nf_get a1 a2 M post) : Ct l κ y_Nf_get b_Nf_get 4 (some .int) 2 [.ref (κ.1 + 0), .int a1, .int a2] M (pI post) := by
  refine Ct_of (by decide) (Nat.le_of_ble_eq_true rfl) (fun γ hγ C R => ?_)
  subst hγ
  unfold q_Nf_get at hq
  show G γ κ 4 (0, 0) (Gq γ κ (pI post)) 0 [(0, .ref (κ.1 + 0)), (1, .int a1), (2, .int a2)] [] M
  refine G_aload_n C 0 d_Nf_get_0 rfl rfl ?_
  refine G_iload_n C 1 d_Nf_get_1 rfl rfl ?_
  refine G_callV C (s_Nf_formAt hq) v_Nf_formAt i_Nf_formAt z_Nf_formAt wd_257 (by decide) rfl (k := 0) (ci := 6) (by decide) rfl rfl rfl (rest := []) (by rfl) (Nat.le_of_ble_eq_true rfl) d_Nf_get_2 (kf_ (fun r2 M1 hq => ?_))
  refine G_astore_nq C (lv' := [(3, _), (0, _), (1, _), (2, _)]) d_Nf_get_5 rfl (by decide) rfl ?_
  refine G_aload_nq C 0 d_Nf_get_6 rfl rfl ?_
  refine G_ifnullq C (tgt := 25) d_Nf_get_7 (by decide) (fun c => ?_) (fun i3 c => ?_)
  · replace hq := hq.1 c
    refine G_ldc C (v := -2000000) wd_269 d_Nf_get_25 ?_
    exact G_iret C R d_Nf_get_27 ⟨_, rfl, hq⟩
  · have hz := hq.2 i3 c
    clear hq
    subst c
    obtain ⟨h_i3, hq⟩ := hz
    refine G_aload_n C 1 d_Nf_get_10 rfl rfl ?_
    refine Gg_Nf_shape C wd_163 d_Nf_get_11 ?_
    refine G_aload_n C 0 d_Nf_get_14 rfl rfl ?_
    refine Gg_Frm_degree C h_i3 wd_150 d_Nf_get_15 ?_
    refine G_iload_n C 3 d_Nf_get_18 rfl rfl ?_
    refine G_callV C (s_Net_has hq) v_Net_has i_Net_has z_Net_has wd_211 (by decide) rfl (k := 1) (ci := 3) (by decide) rfl rfl rfl (rest := []) (by rfl) (Nat.le_of_ble_eq_true rfl) d_Nf_get_19 (ki_ (fun r5 M4 hq => ?_))
    refine G_if_ne C (tgt := 28) d_Nf_get_22 (by decide) (fun c => ?_) (fun c => ?_)
    · replace hq := hq.1 c
      refine G_aload_n C 0 d_Nf_get_28 rfl rfl ?_
      refine Gg_Frm_numbers C h_i3 wd_153 d_Nf_get_29 ?_
      refine G_iload_n C 3 d_Nf_get_32 rfl rfl ?_
      refine G_iaload C (by have := h_i3; omega) (sh_formA κ h_i3) hq.1 d_Nf_get_33 ?_
      replace hq := hq.2
      exact G_iret C R d_Nf_get_34 ⟨_, rfl, hq⟩
    · replace hq := hq.2 c
      refine G_ldc C (v := -2000000) wd_269 d_Nf_get_25 ?_
      exact G_iret C R d_Nf_get_27 ⟨_, rfl, hq⟩
theorem d_Nf_giveMade_0 : decode b_Nf_giveMade 0 = .ok (.aload_n 0, 1) := by decide +kernel
theorem d_Nf_giveMade_1 : decode b_Nf_giveMade 1 = .ok (.getfield 10, 3) := by decide +kernel
theorem d_Nf_giveMade_4 : decode b_Nf_giveMade 4 = .ok (.iload_n 2, 1) := by decide +kernel
theorem d_Nf_giveMade_5 : decode b_Nf_giveMade 5 = .ok (.invokevirtual 119, 3) := by decide +kernel
theorem d_Nf_giveMade_8 : decode b_Nf_giveMade 8 = .ok (.istore_n 3, 1) := by decide +kernel
theorem d_Nf_giveMade_9 : decode b_Nf_giveMade 9 = .ok (.iconst 0, 1) := by decide +kernel
theorem d_Nf_giveMade_10 : decode b_Nf_giveMade 10 = .ok (.istore 4, 2) := by decide +kernel
theorem d_Nf_giveMade_12 : decode b_Nf_giveMade 12 = .ok (.iload 4, 2) := by decide +kernel
theorem d_Nf_giveMade_14 : decode b_Nf_giveMade 14 = .ok (.iload_n 3, 1) := by decide +kernel
theorem d_Nf_giveMade_15 : decode b_Nf_giveMade 15 = .ok (.if_icmp .ge 27, 3) := by decide +kernel
theorem d_Nf_giveMade_18 : decode b_Nf_giveMade 18 = .ok (.aload_n 0, 1) := by decide +kernel
theorem d_Nf_giveMade_19 : decode b_Nf_giveMade 19 = .ok (.getfield 50, 3) := by decide +kernel
theorem d_Nf_giveMade_22 : decode b_Nf_giveMade 22 = .ok (.iload 4, 2) := by decide +kernel
theorem d_Nf_giveMade_24 : decode b_Nf_giveMade 24 = .ok (.laload, 1) := by decide +kernel
theorem d_Nf_giveMade_25 : decode b_Nf_giveMade 25 = .ok (.ldc 98, 2) := by decide +kernel
theorem d_Nf_giveMade_27 : decode b_Nf_giveMade 27 = .ok (.invokestatic 99, 3) := by decide +kernel
theorem d_Nf_giveMade_30 : decode b_Nf_giveMade 30 = .ok (.ifCond .ne 6, 3) := by decide +kernel
theorem d_Nf_giveMade_33 : decode b_Nf_giveMade 33 = .ok (.bipush (-5), 2) := by decide +kernel
theorem d_Nf_giveMade_35 : decode b_Nf_giveMade 35 = .ok (.ireturn, 1) := by decide +kernel
theorem d_Nf_giveMade_36 : decode b_Nf_giveMade 36 = .ok (.iinc 4 1, 3) := by decide +kernel
theorem d_Nf_giveMade_39 : decode b_Nf_giveMade 39 = .ok (.goto (-27), 3) := by decide +kernel
theorem d_Nf_giveMade_42 : decode b_Nf_giveMade 42 = .ok (.aload_n 1, 1) := by decide +kernel
theorem d_Nf_giveMade_43 : decode b_Nf_giveMade 43 = .ok (.iload_n 2, 1) := by decide +kernel
theorem d_Nf_giveMade_44 : decode b_Nf_giveMade 44 = .ok (.invokevirtual 59, 3) := by decide +kernel
theorem d_Nf_giveMade_47 : decode b_Nf_giveMade 47 = .ok (.iconst 0, 1) := by decide +kernel
theorem d_Nf_giveMade_48 : decode b_Nf_giveMade 48 = .ok (.istore 4, 2) := by decide +kernel
theorem d_Nf_giveMade_50 : decode b_Nf_giveMade 50 = .ok (.iload 4, 2) := by decide +kernel
theorem d_Nf_giveMade_52 : decode b_Nf_giveMade 52 = .ok (.iload_n 3, 1) := by decide +kernel
theorem d_Nf_giveMade_53 : decode b_Nf_giveMade 53 = .ok (.if_icmp .ge 24, 3) := by decide +kernel
theorem d_Nf_giveMade_56 : decode b_Nf_giveMade 56 = .ok (.aload_n 1, 1) := by decide +kernel
theorem d_Nf_giveMade_57 : decode b_Nf_giveMade 57 = .ok (.getfield 104, 3) := by decide +kernel
theorem d_Nf_giveMade_60 : decode b_Nf_giveMade 60 = .ok (.iload 4, 2) := by decide +kernel
theorem d_Nf_giveMade_62 : decode b_Nf_giveMade 62 = .ok (.aload_n 0, 1) := by decide +kernel
theorem d_Nf_giveMade_63 : decode b_Nf_giveMade 63 = .ok (.getfield 50, 3) := by decide +kernel
theorem d_Nf_giveMade_66 : decode b_Nf_giveMade 66 = .ok (.iload 4, 2) := by decide +kernel
theorem d_Nf_giveMade_68 : decode b_Nf_giveMade 68 = .ok (.laload, 1) := by decide +kernel
theorem d_Nf_giveMade_69 : decode b_Nf_giveMade 69 = .ok (.l2i, 1) := by decide +kernel
theorem d_Nf_giveMade_70 : decode b_Nf_giveMade 70 = .ok (.iastore, 1) := by decide +kernel
theorem d_Nf_giveMade_71 : decode b_Nf_giveMade 71 = .ok (.iinc 4 1, 3) := by decide +kernel
theorem d_Nf_giveMade_74 : decode b_Nf_giveMade 74 = .ok (.goto (-24), 3) := by decide +kernel
theorem d_Nf_giveMade_77 : decode b_Nf_giveMade 77 = .ok (.iload_n 2, 1) := by decide +kernel
theorem d_Nf_giveMade_78 : decode b_Nf_giveMade 78 = .ok (.ireturn, 1) := by decide +kernel
def q_Nf_giveMade_L12 (g1 : Nat) (kx33 : Mem → Prop) (kx42 : Int32 → Int32 → Mem → Prop) (post : Int32 → Mem → Prop) : Nat → Int32 → Int32 → Int32 → Mem → Prop
  | 0, _, _, _, _ => False
  | n + 1, x2, x3, x4, M => (x3 ≤ x4 → kx42 x2 x3 M) ∧ (¬ x3 ≤ x4 → vp_in x4 12 ∧ (q_Nf_isWithin (M.2 31 x4.toNatClampNeg) (1000000 : Int32) M (fun r4 M3 => (¬ r4 = 0 → q_Nf_giveMade_L12 g1 kx33 kx42 post n x2 x3 (x4 + 1) M3) ∧ (r4 = 0 → kx33 M3))))
set_option maxHeartbeats 4000000 in
theorem s_Nf_giveMade_L12 {γ : Gm} {κ : Kp} {post : Int32 → Mem → Prop} {g1 : Nat} {kx33 : Mem → Prop} {kx42 : Int32 → Int32 → Mem → Prop} (C : Cx γ κ "NetForms" b_Nf_giveMade 5 2 (0, 0)) (R : Rt γ (some .int)) (h_g1 : g1 < 12) (hx33 : ∀ M', kx33 M' → G γ κ 5 (0, 0) (Gq γ κ (pI post)) 33 [] [] M') (hx42 : ∀ y2 y3 M', kx42 y2 y3 M' → G γ κ 5 (0, 0) (Gq γ κ (pI post)) 42 [(0, .ref (κ.1 + 0)), (1, .ref (κ.1 + (32 + 2 * g1))), (2, .int y2), (3, .int y3)] [] M') : ∀ (n : Nat) (x2 : Int32) (x3 : Int32) (x4 : Int32) (M : Mem), q_Nf_giveMade_L12 g1 kx33 kx42 post n x2 x3 x4 M → G γ κ 5 (0, 0) (Gq γ κ (pI post)) 12 [(0, .ref (κ.1 + 0)), (1, .ref (κ.1 + (32 + 2 * g1))), (2, .int x2), (3, .int x3), (4, .int x4)] [] M := by
  intro n
  induction n with
  | zero => intro x2 x3 x4 M hq; exact hq.elim
  | succ n ih =>
    intro x2 x3 x4 M hq
    unfold q_Nf_giveMade_L12 at hq
    refine G_iload C 4 d_Nf_giveMade_12 rfl ?_
    refine G_iload_n C 3 d_Nf_giveMade_14 rfl rfl ?_
    refine G_icmp_ge C (tgt := 42) d_Nf_giveMade_15 (by decide) (fun c => ?_) (fun c => ?_)
    · replace hq := hq.1 c
      exact G_sub [0, 1, 2, 3] (by rfl) (hx42 _ _ _ hq)
    · replace hq := hq.2 c
      refine G_aload_n C 0 d_Nf_giveMade_18 rfl rfl ?_
      refine Gg_Nf_made C wd_169 d_Nf_giveMade_19 ?_
      refine G_iload C 4 d_Nf_giveMade_22 rfl ?_
      refine G_laload C (k := 31) (by decide) (fun _ _ => rfl) hq.1 d_Nf_giveMade_24 ?_
      replace hq := hq.2
      refine G_ldc C (v := 1000000) wd_265 d_Nf_giveMade_25 ?_
      refine G_callS C (s_Nf_isWithin hq) v_Nf_isWithin z_Nf_isWithin wd_266 (by decide) rfl (rest := []) (by rfl) (Nat.le_of_ble_eq_true rfl) d_Nf_giveMade_27 (ki_ (fun r4 M3 hq => ?_))
      refine G_if_ne C (tgt := 36) d_Nf_giveMade_30 (by decide) (fun c => ?_) (fun c => ?_)
      · replace hq := hq.1 c
        refine G_iinc C (v := _ + 1) (lv' := [(4, _), (0, _), (1, _), (2, _), (3, _)]) 4 d_Nf_giveMade_36 rfl rfl (by decide) rfl ?_
        refine G_goto C (tgt := 12) d_Nf_giveMade_39 (by decide) ?_
        exact G_sub [1, 2, 3, 4, 0] (by rfl) (ih _ _ _ _ hq)
      · replace hq := hq.2 c
        exact G_sub [] (by rfl) (hx33 _ hq)
def q_Nf_giveMade_L50 (g1 : Nat) (kx77 : Int32 → Mem → Prop) (post : Int32 → Mem → Prop) : Nat → Int32 → Int32 → Int32 → Mem → Prop
  | 0, _, _, _, _ => False
  | n + 1, x2, x3, x4, M => (x3 ≤ x4 → kx77 x2 M) ∧ (¬ x3 ≤ x4 → vp_in x4 12 ∧ (vp_in x4 12 ∧ (∀ M11, M11 = wI M (33 + 2 * g1) x4.toNatClampNeg ((M.2 31 x4.toNatClampNeg).toInt32) → q_Nf_giveMade_L50 g1 kx77 post n x2 x3 (x4 + 1) M11)))
set_option maxHeartbeats 4000000 in
theorem s_Nf_giveMade_L50 {γ : Gm} {κ : Kp} {post : Int32 → Mem → Prop} {g1 : Nat} {kx77 : Int32 → Mem → Prop} (C : Cx γ κ "NetForms" b_Nf_giveMade 5 2 (0, 0)) (R : Rt γ (some .int)) (h_g1 : g1 < 12) (hx77 : ∀ y0 M', kx77 y0 M' → G γ κ 5 (0, 0) (Gq γ κ (pI post)) 77 [(2, .int y0)] [] M') : ∀ (n : Nat) (x2 : Int32) (x3 : Int32) (x4 : Int32) (M : Mem), q_Nf_giveMade_L50 g1 kx77 post n x2 x3 x4 M → G γ κ 5 (0, 0) (Gq γ κ (pI post)) 50 [(0, .ref (κ.1 + 0)), (1, .ref (κ.1 + (32 + 2 * g1))), (2, .int x2), (3, .int x3), (4, .int x4)] [] M := by
  intro n
  induction n with
  | zero => intro x2 x3 x4 M hq; exact hq.elim
  | succ n ih =>
    intro x2 x3 x4 M hq
    unfold q_Nf_giveMade_L50 at hq
    refine G_iload C 4 d_Nf_giveMade_50 rfl ?_
    refine G_iload_n C 3 d_Nf_giveMade_52 rfl rfl ?_
    refine G_icmp_ge C (tgt := 77) d_Nf_giveMade_53 (by decide) (fun c => ?_) (fun c => ?_)
    · replace hq := hq.1 c
      exact G_sub [2] (by rfl) (hx77 _ _ hq)
    · replace hq := hq.2 c
      refine G_aload_n C 1 d_Nf_giveMade_56 rfl rfl ?_
      refine Gg_Frm_numbers C h_g1 wd_153 d_Nf_giveMade_57 ?_
      refine G_iload C 4 d_Nf_giveMade_60 rfl ?_
      refine G_aload_n C 0 d_Nf_giveMade_62 rfl rfl ?_
      refine Gg_Nf_made C wd_169 d_Nf_giveMade_63 ?_
      refine G_iload C 4 d_Nf_giveMade_66 rfl ?_
      refine G_laload C (k := 31) (by decide) (fun _ _ => rfl) hq.1 d_Nf_giveMade_68 ?_
      replace hq := hq.2
      refine G_l2i C d_Nf_giveMade_69 ?_
      refine G_iastore C (by have := h_g1; omega) (sh_formA κ h_g1) hq.1 d_Nf_giveMade_70 ?_
      replace hq := hq.2 _ rfl
      refine G_iinc C (v := _ + 1) (lv' := [(4, _), (0, _), (1, _), (2, _), (3, _)]) 4 d_Nf_giveMade_71 rfl rfl (by decide) rfl ?_
      refine G_goto C (tgt := 50) d_Nf_giveMade_74 (by decide) ?_
      exact G_sub [1, 2, 3, 4, 0] (by rfl) (ih _ _ _ _ hq)
def q_Nf_giveMade (f1 : Nat) (a2 : Int32) (M : Mem) (post : Int32 → Mem → Prop) : Prop := q_Net_size a2 M (fun r2 M1 => ∃ n5, q_Nf_giveMade_L12 f1 (fun M6 => post (-5 : Int32) M6) (fun x7 x8 M9 => q_Frm_begin f1 x7 M9 (fun M10 => ∃ n12, q_Nf_giveMade_L50 f1 (fun x13 M14 => post x13 M14) post n12 x7 x8 (0 : Int32) M10)) post n5 a2 r2 (0 : Int32) M1)
set_option maxHeartbeats 4000000 in
theorem s_Nf_giveMade {l : Launch} {κ : Kp} {f1 : Nat} {a2 : Int32} {M : Mem} {post : Int32 → Mem → Prop} (h_f1 : f1 < 12) (hq : q_Nf_giveMade f1 a2 M post) : Ct l κ y_Nf_giveMade b_Nf_giveMade 5 (some .int) 2 [.ref (κ.1 + 0), .ref (κ.1 + (32 + 2 * f1)), .int a2] M (pI post) := by
  refine Ct_of (by decide) (Nat.le_of_ble_eq_true rfl) (fun γ hγ C R => ?_)
  subst hγ
  unfold q_Nf_giveMade at hq
  show G γ κ 5 (0, 0) (Gq γ κ (pI post)) 0 [(0, .ref (κ.1 + 0)), (1, .ref (κ.1 + (32 + 2 * f1))), (2, .int a2)] [] M
  refine G_aload_n C 0 d_Nf_giveMade_0 rfl rfl ?_
  refine Gg_Nf_shape C wd_163 d_Nf_giveMade_1 ?_
  refine G_iload_n C 2 d_Nf_giveMade_4 rfl rfl ?_
  refine G_callV C (s_Net_size hq) v_Net_size i_Net_size z_Net_size wd_282 (by decide) rfl (k := 1) (ci := 3) (by decide) rfl rfl rfl (rest := []) (by rfl) (Nat.le_of_ble_eq_true rfl) d_Nf_giveMade_5 (ki_ (fun r2 M1 hq => ?_))
  refine G_istore_n C (lv' := [(3, _), (0, _), (1, _), (2, _)]) d_Nf_giveMade_8 rfl (by decide) rfl ?_
  refine G_iconst C (v := 0) d_Nf_giveMade_9 (by decide) ?_
  refine G_istore C (lv' := [(4, _), (3, _), (0, _), (1, _), (2, _)]) d_Nf_giveMade_10 (by decide) rfl ?_
  obtain ⟨n5, hq⟩ := hq
  refine G_sub [2, 3, 4, 1, 0] (by rfl) (s_Nf_giveMade_L12 C R h_f1 ?_ ?_ n5 _ _ _ _ hq)
  · intro M6 hq
    refine G_bipush C (v := -5) d_Nf_giveMade_33 (by decide) ?_
    exact G_iret C R d_Nf_giveMade_35 ⟨_, rfl, hq⟩
  · intro x7 x8 M9 hq
    refine G_aload_n C 1 d_Nf_giveMade_42 rfl rfl ?_
    refine G_iload_n C 2 d_Nf_giveMade_43 rfl rfl ?_
    refine G_callV C (s_Frm_begin h_f1 hq) v_Frm_begin i_Frm_begin z_Frm_begin wd_189 (by decide) rfl (k := (32 + 2 * f1)) (ci := 2) (by have := h_f1; omega) (sh_formO κ h_f1 _ _) rfl rfl (rest := []) (by rfl) (Nat.le_of_ble_eq_true rfl) d_Nf_giveMade_44 (kv_ (fun M10 hq => ?_))
    refine G_iconst C (v := 0) d_Nf_giveMade_47 (by decide) ?_
    refine G_istore C (lv' := [(4, _), (0, _), (1, _), (2, _), (3, _)]) d_Nf_giveMade_48 (by decide) rfl ?_
    obtain ⟨n12, hq⟩ := hq
    refine G_sub [1, 2, 3, 4, 0] (by rfl) (s_Nf_giveMade_L50 C R h_f1 ?_ n12 _ _ _ _ hq)
    · intro x13 M14 hq
      refine G_iload_n C 0 d_Nf_giveMade_77 rfl rfl ?_
      exact G_iret C R d_Nf_giveMade_78 ⟨_, rfl, hq⟩
theorem d_Nf_hasNoSlope_0 : decode b_Nf_hasNoSlope 0 = .ok (.aload_n 1, 1) := by decide +kernel
theorem d_Nf_hasNoSlope_1 : decode b_Nf_hasNoSlope 1 = .ok (.getfield 95, 3) := by decide +kernel
theorem d_Nf_hasNoSlope_4 : decode b_Nf_hasNoSlope 4 = .ok (.iconst 2, 1) := by decide +kernel
theorem d_Nf_hasNoSlope_5 : decode b_Nf_hasNoSlope 5 = .ok (.if_icmp .ne 5, 3) := by decide +kernel
theorem d_Nf_hasNoSlope_8 : decode b_Nf_hasNoSlope 8 = .ok (.iconst 1, 1) := by decide +kernel
theorem d_Nf_hasNoSlope_9 : decode b_Nf_hasNoSlope 9 = .ok (.ireturn, 1) := by decide +kernel
theorem d_Nf_hasNoSlope_10 : decode b_Nf_hasNoSlope 10 = .ok (.aload_n 0, 1) := by decide +kernel
theorem d_Nf_hasNoSlope_11 : decode b_Nf_hasNoSlope 11 = .ok (.aload_n 1, 1) := by decide +kernel
theorem d_Nf_hasNoSlope_12 : decode b_Nf_hasNoSlope 12 = .ok (.invokevirtual 108, 3) := by decide +kernel
theorem d_Nf_hasNoSlope_15 : decode b_Nf_hasNoSlope 15 = .ok (.aload_n 0, 1) := by decide +kernel
theorem d_Nf_hasNoSlope_16 : decode b_Nf_hasNoSlope 16 = .ok (.aload_n 0, 1) := by decide +kernel
theorem d_Nf_hasNoSlope_17 : decode b_Nf_hasNoSlope 17 = .ok (.getfield 10, 3) := by decide +kernel
theorem d_Nf_hasNoSlope_20 : decode b_Nf_hasNoSlope 20 = .ok (.aload_n 1, 1) := by decide +kernel
theorem d_Nf_hasNoSlope_21 : decode b_Nf_hasNoSlope 21 = .ok (.getfield 95, 3) := by decide +kernel
theorem d_Nf_hasNoSlope_24 : decode b_Nf_hasNoSlope 24 = .ok (.iconst 1, 1) := by decide +kernel
theorem d_Nf_hasNoSlope_25 : decode b_Nf_hasNoSlope 25 = .ok (.iadd, 1) := by decide +kernel
theorem d_Nf_hasNoSlope_26 : decode b_Nf_hasNoSlope 26 = .ok (.invokevirtual 119, 3) := by decide +kernel
theorem d_Nf_hasNoSlope_29 : decode b_Nf_hasNoSlope 29 = .ok (.invokevirtual 235, 3) := by decide +kernel
theorem d_Nf_hasNoSlope_32 : decode b_Nf_hasNoSlope 32 = .ok (.ireturn, 1) := by decide +kernel
def q_Nf_hasNoSlope (f1 : Nat) (M : Mem) (post : Int32 → Mem → Prop) : Prop := (¬ (M.1 (32 + 2 * f1) 0) = (2 : Int32) → q_Nf_makeSlope f1 M (fun M1 => q_Net_size ((M1.1 (32 + 2 * f1) 0) + (1 : Int32)) M1 (fun r3 M2 => q_Nf_isMadeZero r3 M2 (fun r5 M4 => narrow .boolean (.int r5) = .int r5 ∧ post r5 M4)))) ∧ ((M.1 (32 + 2 * f1) 0) = (2 : Int32) → post (1 : Int32) M)
set_option maxHeartbeats 4000000 in
theorem s_Nf_hasNoSlope {l : Launch} {κ : Kp} {f1 : Nat} {M : Mem} {post : Int32 → Mem → Prop} (h_f1 : f1 < 12) (hq : q_Nf_hasNoSlope f1 M post) : Ct l κ y_Nf_hasNoSlope b_Nf_hasNoSlope 2 (some .boolean) 2 [.ref (κ.1 + 0), .ref (κ.1 + (32 + 2 * f1))] M (pI post) := by
  refine Ct_of (by decide) (Nat.le_of_ble_eq_true rfl) (fun γ hγ C R => ?_)
  subst hγ
  unfold q_Nf_hasNoSlope at hq
  show G γ κ 2 (0, 0) (Gq γ κ (pI post)) 0 [(0, .ref (κ.1 + 0)), (1, .ref (κ.1 + (32 + 2 * f1)))] [] M
  refine G_aload_n C 1 d_Nf_hasNoSlope_0 rfl rfl ?_
  refine Gg_Frm_degree C h_f1 wd_150 d_Nf_hasNoSlope_1 ?_
  refine G_iconst C (v := 2) d_Nf_hasNoSlope_4 (by decide) ?_
  refine G_icmp_ne C (tgt := 10) d_Nf_hasNoSlope_5 (by decide) (fun c => ?_) (fun c => ?_)
  · replace hq := hq.1 c
    refine G_aload_n C 0 d_Nf_hasNoSlope_10 rfl rfl ?_
    refine G_aload_n C 1 d_Nf_hasNoSlope_11 rfl rfl ?_
    refine G_callV C (s_Nf_makeSlope h_f1 hq) v_Nf_makeSlope i_Nf_makeSlope z_Nf_makeSlope wd_278 (by decide) rfl (k := 0) (ci := 6) (by decide) rfl rfl rfl (rest := []) (by rfl) (Nat.le_of_ble_eq_true rfl) d_Nf_hasNoSlope_12 (kv_ (fun M1 hq => ?_))
    refine G_aload_n C 0 d_Nf_hasNoSlope_15 rfl rfl ?_
    refine G_aload_n C 0 d_Nf_hasNoSlope_16 rfl rfl ?_
    refine Gg_Nf_shape C wd_163 d_Nf_hasNoSlope_17 ?_
    refine G_aload_n C 1 d_Nf_hasNoSlope_20 rfl rfl ?_
    refine Gg_Frm_degree C h_f1 wd_150 d_Nf_hasNoSlope_21 ?_
    refine G_iconst C (v := 1) d_Nf_hasNoSlope_24 (by decide) ?_
    refine G_iadd C d_Nf_hasNoSlope_25 ?_
    refine G_callV C (s_Net_size hq) v_Net_size i_Net_size z_Net_size wd_282 (by decide) rfl (k := 1) (ci := 3) (by decide) rfl rfl rfl (rest := [_]) (by rfl) (Nat.le_of_ble_eq_true rfl) d_Nf_hasNoSlope_26 (ki_ (fun r3 M2 hq => ?_))
    refine G_callV C (s_Nf_isMadeZero hq) v_Nf_isMadeZero i_Nf_isMadeZero z_Nf_isMadeZero wd_329 (by decide) rfl (k := 0) (ci := 6) (by decide) rfl rfl rfl (rest := []) (by rfl) (Nat.le_of_ble_eq_true rfl) d_Nf_hasNoSlope_29 (ki_ (fun r5 M4 hq => ?_))
    exact G_zret C R hq.1 d_Nf_hasNoSlope_32 ⟨_, rfl, hq.2⟩
  · replace hq := hq.2 c
    refine G_iconst C (v := 1) d_Nf_hasNoSlope_8 (by decide) ?_
    exact G_zret C R rfl d_Nf_hasNoSlope_9 ⟨_, rfl, hq⟩
theorem d_Nf_hasNoRim_0 : decode b_Nf_hasNoRim 0 = .ok (.aload_n 1, 1) := by decide +kernel
theorem d_Nf_hasNoRim_1 : decode b_Nf_hasNoRim 1 = .ok (.getfield 95, 3) := by decide +kernel
theorem d_Nf_hasNoRim_4 : decode b_Nf_hasNoRim 4 = .ok (.ifCond .ne 5, 3) := by decide +kernel
theorem d_Nf_hasNoRim_7 : decode b_Nf_hasNoRim 7 = .ok (.iconst 1, 1) := by decide +kernel
theorem d_Nf_hasNoRim_8 : decode b_Nf_hasNoRim 8 = .ok (.ireturn, 1) := by decide +kernel
theorem d_Nf_hasNoRim_9 : decode b_Nf_hasNoRim 9 = .ok (.aload_n 0, 1) := by decide +kernel
theorem d_Nf_hasNoRim_10 : decode b_Nf_hasNoRim 10 = .ok (.aload_n 1, 1) := by decide +kernel
theorem d_Nf_hasNoRim_11 : decode b_Nf_hasNoRim 11 = .ok (.invokevirtual 116, 3) := by decide +kernel
theorem d_Nf_hasNoRim_14 : decode b_Nf_hasNoRim 14 = .ok (.aload_n 0, 1) := by decide +kernel
theorem d_Nf_hasNoRim_15 : decode b_Nf_hasNoRim 15 = .ok (.aload_n 0, 1) := by decide +kernel
theorem d_Nf_hasNoRim_16 : decode b_Nf_hasNoRim 16 = .ok (.getfield 10, 3) := by decide +kernel
theorem d_Nf_hasNoRim_19 : decode b_Nf_hasNoRim 19 = .ok (.aload_n 1, 1) := by decide +kernel
theorem d_Nf_hasNoRim_20 : decode b_Nf_hasNoRim 20 = .ok (.getfield 95, 3) := by decide +kernel
theorem d_Nf_hasNoRim_23 : decode b_Nf_hasNoRim 23 = .ok (.iconst 1, 1) := by decide +kernel
theorem d_Nf_hasNoRim_24 : decode b_Nf_hasNoRim 24 = .ok (.isub, 1) := by decide +kernel
theorem d_Nf_hasNoRim_25 : decode b_Nf_hasNoRim 25 = .ok (.invokevirtual 119, 3) := by decide +kernel
theorem d_Nf_hasNoRim_28 : decode b_Nf_hasNoRim 28 = .ok (.invokevirtual 235, 3) := by decide +kernel
theorem d_Nf_hasNoRim_31 : decode b_Nf_hasNoRim 31 = .ok (.ireturn, 1) := by decide +kernel
def q_Nf_hasNoRim (f1 : Nat) (M : Mem) (post : Int32 → Mem → Prop) : Prop := (¬ (M.1 (32 + 2 * f1) 0) = 0 → q_Nf_makeRim f1 M (fun M1 => q_Net_size ((M1.1 (32 + 2 * f1) 0) - (1 : Int32)) M1 (fun r3 M2 => q_Nf_isMadeZero r3 M2 (fun r5 M4 => narrow .boolean (.int r5) = .int r5 ∧ post r5 M4)))) ∧ ((M.1 (32 + 2 * f1) 0) = 0 → post (1 : Int32) M)
set_option maxHeartbeats 4000000 in
theorem s_Nf_hasNoRim {l : Launch} {κ : Kp} {f1 : Nat} {M : Mem} {post : Int32 → Mem → Prop} (h_f1 : f1 < 12) (hq : q_Nf_hasNoRim f1 M post) : Ct l κ y_Nf_hasNoRim b_Nf_hasNoRim 2 (some .boolean) 2 [.ref (κ.1 + 0), .ref (κ.1 + (32 + 2 * f1))] M (pI post) := by
  refine Ct_of (by decide) (Nat.le_of_ble_eq_true rfl) (fun γ hγ C R => ?_)
  subst hγ
  unfold q_Nf_hasNoRim at hq
  show G γ κ 2 (0, 0) (Gq γ κ (pI post)) 0 [(0, .ref (κ.1 + 0)), (1, .ref (κ.1 + (32 + 2 * f1)))] [] M
  refine G_aload_n C 1 d_Nf_hasNoRim_0 rfl rfl ?_
  refine Gg_Frm_degree C h_f1 wd_150 d_Nf_hasNoRim_1 ?_
  refine G_if_ne C (tgt := 9) d_Nf_hasNoRim_4 (by decide) (fun c => ?_) (fun c => ?_)
  · replace hq := hq.1 c
    refine G_aload_n C 0 d_Nf_hasNoRim_9 rfl rfl ?_
    refine G_aload_n C 1 d_Nf_hasNoRim_10 rfl rfl ?_
    refine G_callV C (s_Nf_makeRim h_f1 hq) v_Nf_makeRim i_Nf_makeRim z_Nf_makeRim wd_295 (by decide) rfl (k := 0) (ci := 6) (by decide) rfl rfl rfl (rest := []) (by rfl) (Nat.le_of_ble_eq_true rfl) d_Nf_hasNoRim_11 (kv_ (fun M1 hq => ?_))
    refine G_aload_n C 0 d_Nf_hasNoRim_14 rfl rfl ?_
    refine G_aload_n C 0 d_Nf_hasNoRim_15 rfl rfl ?_
    refine Gg_Nf_shape C wd_163 d_Nf_hasNoRim_16 ?_
    refine G_aload_n C 1 d_Nf_hasNoRim_19 rfl rfl ?_
    refine Gg_Frm_degree C h_f1 wd_150 d_Nf_hasNoRim_20 ?_
    refine G_iconst C (v := 1) d_Nf_hasNoRim_23 (by decide) ?_
    refine G_isub C d_Nf_hasNoRim_24 ?_
    refine G_callV C (s_Net_size hq) v_Net_size i_Net_size z_Net_size wd_282 (by decide) rfl (k := 1) (ci := 3) (by decide) rfl rfl rfl (rest := [_]) (by rfl) (Nat.le_of_ble_eq_true rfl) d_Nf_hasNoRim_25 (ki_ (fun r3 M2 hq => ?_))
    refine G_callV C (s_Nf_isMadeZero hq) v_Nf_isMadeZero i_Nf_isMadeZero z_Nf_isMadeZero wd_329 (by decide) rfl (k := 0) (ci := 6) (by decide) rfl rfl rfl (rest := []) (by rfl) (Nat.le_of_ble_eq_true rfl) d_Nf_hasNoRim_28 (ki_ (fun r5 M4 hq => ?_))
    exact G_zret C R hq.1 d_Nf_hasNoRim_31 ⟨_, rfl, hq.2⟩
  · replace hq := hq.2 c
    refine G_iconst C (v := 1) d_Nf_hasNoRim_7 (by decide) ?_
    exact G_zret C R rfl d_Nf_hasNoRim_8 ⟨_, rfl, hq⟩
