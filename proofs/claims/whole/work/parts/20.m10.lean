theorem d_Mo_forbids_0 : decode b_Mo_forbids 0 = .ok (.aload_n 0, 1) := by decide +kernel
theorem d_Mo_forbids_1 : decode b_Mo_forbids 1 = .ok (.invokevirtual 162, 3) := by decide +kernel
theorem d_Mo_forbids_4 : decode b_Mo_forbids 4 = .ok (.pop, 1) := by decide +kernel
theorem d_Mo_forbids_5 : decode b_Mo_forbids 5 = .ok (.iconst 0, 1) := by decide +kernel
theorem d_Mo_forbids_6 : decode b_Mo_forbids 6 = .ok (.istore_n 1, 1) := by decide +kernel
theorem d_Mo_forbids_7 : decode b_Mo_forbids 7 = .ok (.iload_n 1, 1) := by decide +kernel
theorem d_Mo_forbids_8 : decode b_Mo_forbids 8 = .ok (.aload_n 0, 1) := by decide +kernel
theorem d_Mo_forbids_9 : decode b_Mo_forbids 9 = .ok (.getfield 7, 3) := by decide +kernel
theorem d_Mo_forbids_12 : decode b_Mo_forbids 12 = .ok (.if_icmp .ge 67, 3) := by decide +kernel
theorem d_Mo_forbids_15 : decode b_Mo_forbids 15 = .ok (.iconst 0, 1) := by decide +kernel
theorem d_Mo_forbids_16 : decode b_Mo_forbids 16 = .ok (.istore_n 2, 1) := by decide +kernel
theorem d_Mo_forbids_17 : decode b_Mo_forbids 17 = .ok (.iconst 0, 1) := by decide +kernel
theorem d_Mo_forbids_18 : decode b_Mo_forbids 18 = .ok (.istore_n 3, 1) := by decide +kernel
theorem d_Mo_forbids_19 : decode b_Mo_forbids 19 = .ok (.iload_n 3, 1) := by decide +kernel
theorem d_Mo_forbids_20 : decode b_Mo_forbids 20 = .ok (.aload_n 0, 1) := by decide +kernel
theorem d_Mo_forbids_21 : decode b_Mo_forbids 21 = .ok (.getfield 7, 3) := by decide +kernel
theorem d_Mo_forbids_24 : decode b_Mo_forbids 24 = .ok (.if_icmp .ge 43, 3) := by decide +kernel
theorem d_Mo_forbids_27 : decode b_Mo_forbids 27 = .ok (.iload_n 2, 1) := by decide +kernel
theorem d_Mo_forbids_28 : decode b_Mo_forbids 28 = .ok (.ifCond .ne 27, 3) := by decide +kernel
theorem d_Mo_forbids_31 : decode b_Mo_forbids 31 = .ok (.aload_n 0, 1) := by decide +kernel
theorem d_Mo_forbids_32 : decode b_Mo_forbids 32 = .ok (.getfield 35, 3) := by decide +kernel
theorem d_Mo_forbids_35 : decode b_Mo_forbids 35 = .ok (.iload_n 3, 1) := by decide +kernel
theorem d_Mo_forbids_36 : decode b_Mo_forbids 36 = .ok (.baload, 1) := by decide +kernel
theorem d_Mo_forbids_37 : decode b_Mo_forbids 37 = .ok (.ifCond .eq 22, 3) := by decide +kernel
theorem d_Mo_forbids_40 : decode b_Mo_forbids 40 = .ok (.aload_n 0, 1) := by decide +kernel
theorem d_Mo_forbids_41 : decode b_Mo_forbids 41 = .ok (.getfield 61, 3) := by decide +kernel
theorem d_Mo_forbids_44 : decode b_Mo_forbids 44 = .ok (.iload_n 3, 1) := by decide +kernel
theorem d_Mo_forbids_45 : decode b_Mo_forbids 45 = .ok (.iaload, 1) := by decide +kernel
theorem d_Mo_forbids_46 : decode b_Mo_forbids 46 = .ok (.aload_n 0, 1) := by decide +kernel
theorem d_Mo_forbids_47 : decode b_Mo_forbids 47 = .ok (.getfield 61, 3) := by decide +kernel
theorem d_Mo_forbids_50 : decode b_Mo_forbids 50 = .ok (.iload_n 1, 1) := by decide +kernel
theorem d_Mo_forbids_51 : decode b_Mo_forbids 51 = .ok (.iaload, 1) := by decide +kernel
theorem d_Mo_forbids_52 : decode b_Mo_forbids 52 = .ok (.if_icmp .ne 7, 3) := by decide +kernel
theorem d_Mo_forbids_55 : decode b_Mo_forbids 55 = .ok (.iconst 1, 1) := by decide +kernel
theorem d_Mo_forbids_56 : decode b_Mo_forbids 56 = .ok (.goto 4, 3) := by decide +kernel
theorem d_Mo_forbids_59 : decode b_Mo_forbids 59 = .ok (.iconst 0, 1) := by decide +kernel
theorem d_Mo_forbids_60 : decode b_Mo_forbids 60 = .ok (.istore_n 2, 1) := by decide +kernel
theorem d_Mo_forbids_61 : decode b_Mo_forbids 61 = .ok (.iinc 3 1, 3) := by decide +kernel
theorem d_Mo_forbids_64 : decode b_Mo_forbids 64 = .ok (.goto (-45), 3) := by decide +kernel
theorem d_Mo_forbids_67 : decode b_Mo_forbids 67 = .ok (.iload_n 2, 1) := by decide +kernel
theorem d_Mo_forbids_68 : decode b_Mo_forbids 68 = .ok (.ifCond .ne 5, 3) := by decide +kernel
theorem d_Mo_forbids_71 : decode b_Mo_forbids 71 = .ok (.iload_n 1, 1) := by decide +kernel
theorem d_Mo_forbids_72 : decode b_Mo_forbids 72 = .ok (.ireturn, 1) := by decide +kernel
theorem d_Mo_forbids_73 : decode b_Mo_forbids 73 = .ok (.iinc 1 1, 3) := by decide +kernel
theorem d_Mo_forbids_76 : decode b_Mo_forbids 76 = .ok (.goto (-69), 3) := by decide +kernel
theorem d_Mo_forbids_79 : decode b_Mo_forbids 79 = .ok (.iconst (-1), 1) := by decide +kernel
theorem d_Mo_forbids_80 : decode b_Mo_forbids 80 = .ok (.ireturn, 1) := by decide +kernel
def q_Mo_forbids_L19 (kx67 : Int32 → Int32 → Mem → Prop) (post : Int32 → Mem → Prop) : Nat → Int32 → Int32 → Int32 → Mem → Prop
  | 0, _, _, _, _ => False
  | n + 1, x1, x2, x3, M => ((M.1 56 0) ≤ x3 → kx67 x1 x2 M) ∧ (¬ (M.1 56 0) ≤ x3 → (¬ x2 = 0 → q_Mo_forbids_L19 kx67 post n x1 (1 : Int32) (x3 + 1) M) ∧ (x2 = 0 → vp_in x3 6 ∧ (((M.1 64 x3.toNatClampNeg) = 0 → q_Mo_forbids_L19 kx67 post n x1 (0 : Int32) (x3 + 1) M) ∧ (¬ (M.1 64 x3.toNatClampNeg) = 0 → vp_in x3 6 ∧ (vp_in x1 6 ∧ ((¬ (M.1 72 x3.toNatClampNeg) = (M.1 72 x1.toNatClampNeg) → q_Mo_forbids_L19 kx67 post n x1 (0 : Int32) (x3 + 1) M) ∧ ((M.1 72 x3.toNatClampNeg) = (M.1 72 x1.toNatClampNeg) → q_Mo_forbids_L19 kx67 post n x1 (1 : Int32) (x3 + 1) M)))))))
set_option maxHeartbeats 4000000 in
theorem s_Mo_forbids_L19 {γ : Gm} {κ : Kp} {post : Int32 → Mem → Prop} {kx67 : Int32 → Int32 → Mem → Prop} (C : Cx γ κ "NetFormsModel" b_Mo_forbids 4 2 (0, 0)) (R : Rt γ (some .int)) (hx67 : ∀ y1 y2 M', kx67 y1 y2 M' → G γ κ 4 (0, 0) (Gq γ κ (pI post)) 67 [(0, .ref (κ.1 + 56)), (1, .int y1), (2, .int y2)] [] M') : ∀ (n : Nat) (x1 : Int32) (x2 : Int32) (x3 : Int32) (M : Mem), q_Mo_forbids_L19 kx67 post n x1 x2 x3 M → G γ κ 4 (0, 0) (Gq γ κ (pI post)) 19 [(0, .ref (κ.1 + 56)), (1, .int x1), (2, .int x2), (3, .int x3)] [] M := by
  intro n
  induction n with
  | zero => intro x1 x2 x3 M hq; exact hq.elim
  | succ n ih =>
    intro x1 x2 x3 M hq
    unfold q_Mo_forbids_L19 at hq
    refine G_iload_n C 3 d_Mo_forbids_19 rfl rfl ?_
    refine G_aload_n C 0 d_Mo_forbids_20 rfl rfl ?_
    refine Gg_Mo_points C wd_521 d_Mo_forbids_21 ?_
    refine G_icmp_ge C (tgt := 67) d_Mo_forbids_24 (by decide) (fun c => ?_) (fun c => ?_)
    · replace hq := hq.1 c
      exact G_sub [0, 1, 2] (by rfl) (hx67 _ _ _ hq)
    · replace hq := hq.2 c
      refine G_iload_n C 2 d_Mo_forbids_27 rfl rfl ?_
      refine G_if_ne C (tgt := 55) d_Mo_forbids_28 (by decide) (fun c => ?_) (fun c => ?_)
      · replace hq := hq.1 c
        refine G_iconst C (v := 1) d_Mo_forbids_55 (by decide) ?_
        refine G_goto C (tgt := 60) d_Mo_forbids_56 (by decide) ?_
        refine G_istore_n C (lv' := [(2, _), (0, _), (1, _), (3, _)]) d_Mo_forbids_60 rfl (by decide) rfl ?_
        refine G_iinc C (v := _ + 1) (lv' := [(3, _), (2, _), (0, _), (1, _)]) 3 d_Mo_forbids_61 rfl rfl (by decide) rfl ?_
        refine G_goto C (tgt := 19) d_Mo_forbids_64 (by decide) ?_
        exact G_sub [2, 3, 1, 0] (by rfl) (ih _ _ _ _ hq)
      · replace hq := hq.2 c
        refine G_aload_n C 0 d_Mo_forbids_31 rfl rfl ?_
        refine Gg_Mo_isWall C wd_531 d_Mo_forbids_32 ?_
        refine G_iload_n C 3 d_Mo_forbids_35 rfl rfl ?_
        refine G_baload C (k := 64) (by decide) (fun _ _ => rfl) hq.1 d_Mo_forbids_36 ?_
        replace hq := hq.2
        refine G_if_eq C (tgt := 59) d_Mo_forbids_37 (by decide) (fun c => ?_) (fun c => ?_)
        · replace hq := hq.1 c
          refine G_iconst C (v := 0) d_Mo_forbids_59 (by decide) ?_
          refine G_istore_n C (lv' := [(2, _), (0, _), (1, _), (3, _)]) d_Mo_forbids_60 rfl (by decide) rfl ?_
          refine G_iinc C (v := _ + 1) (lv' := [(3, _), (2, _), (0, _), (1, _)]) 3 d_Mo_forbids_61 rfl rfl (by decide) rfl ?_
          refine G_goto C (tgt := 19) d_Mo_forbids_64 (by decide) ?_
          exact G_sub [2, 3, 1, 0] (by rfl) (ih _ _ _ _ hq)
        · replace hq := hq.2 c
          refine G_aload_n C 0 d_Mo_forbids_40 rfl rfl ?_
          refine Gg_Mo_partOf C wd_541 d_Mo_forbids_41 ?_
          refine G_iload_n C 3 d_Mo_forbids_44 rfl rfl ?_
          refine G_iaload C (k := 72) (by decide) (fun _ _ => rfl) hq.1 d_Mo_forbids_45 ?_
          replace hq := hq.2
          refine G_aload_n C 0 d_Mo_forbids_46 rfl rfl ?_
          refine Gg_Mo_partOf C wd_541 d_Mo_forbids_47 ?_
          refine G_iload_n C 1 d_Mo_forbids_50 rfl rfl ?_
          refine G_iaload C (k := 72) (by decide) (fun _ _ => rfl) hq.1 d_Mo_forbids_51 ?_
          replace hq := hq.2
          refine G_icmp_ne C (tgt := 59) d_Mo_forbids_52 (by decide) (fun c => ?_) (fun c => ?_)
          · replace hq := hq.1 c
            refine G_iconst C (v := 0) d_Mo_forbids_59 (by decide) ?_
            refine G_istore_n C (lv' := [(2, _), (0, _), (1, _), (3, _)]) d_Mo_forbids_60 rfl (by decide) rfl ?_
            refine G_iinc C (v := _ + 1) (lv' := [(3, _), (2, _), (0, _), (1, _)]) 3 d_Mo_forbids_61 rfl rfl (by decide) rfl ?_
            refine G_goto C (tgt := 19) d_Mo_forbids_64 (by decide) ?_
            exact G_sub [2, 3, 1, 0] (by rfl) (ih _ _ _ _ hq)
          · replace hq := hq.2 c
            refine G_iconst C (v := 1) d_Mo_forbids_55 (by decide) ?_
            refine G_goto C (tgt := 60) d_Mo_forbids_56 (by decide) ?_
            refine G_istore_n C (lv' := [(2, _), (0, _), (1, _), (3, _)]) d_Mo_forbids_60 rfl (by decide) rfl ?_
            refine G_iinc C (v := _ + 1) (lv' := [(3, _), (2, _), (0, _), (1, _)]) 3 d_Mo_forbids_61 rfl rfl (by decide) rfl ?_
            refine G_goto C (tgt := 19) d_Mo_forbids_64 (by decide) ?_
            exact G_sub [2, 3, 1, 0] (by rfl) (ih _ _ _ _ hq)
def q_Mo_forbids_L7 (kx71 : Int32 → Mem → Prop) (kx79 : Mem → Prop) (post : Int32 → Mem → Prop) : Nat → Int32 → Mem → Prop
  | 0, _, _ => False
  | n + 1, x1, M => ((M.1 56 0) ≤ x1 → kx79 M) ∧ (¬ (M.1 56 0) ≤ x1 → ∃ n3, q_Mo_forbids_L19 (fun x4 x5 M6 => (¬ x5 = 0 → q_Mo_forbids_L7 kx71 kx79 post n (x4 + 1) M6) ∧ (x5 = 0 → kx71 x4 M6)) post n3 x1 (0 : Int32) (0 : Int32) M)
set_option maxHeartbeats 4000000 in
theorem s_Mo_forbids_L7 {γ : Gm} {κ : Kp} {post : Int32 → Mem → Prop} {kx71 : Int32 → Mem → Prop} {kx79 : Mem → Prop} (C : Cx γ κ "NetFormsModel" b_Mo_forbids 4 2 (0, 0)) (R : Rt γ (some .int)) (hx71 : ∀ y0 M', kx71 y0 M' → G γ κ 4 (0, 0) (Gq γ κ (pI post)) 71 [(1, .int y0)] [] M') (hx79 : ∀ M', kx79 M' → G γ κ 4 (0, 0) (Gq γ κ (pI post)) 79 [] [] M') : ∀ (n : Nat) (x1 : Int32) (M : Mem), q_Mo_forbids_L7 kx71 kx79 post n x1 M → G γ κ 4 (0, 0) (Gq γ κ (pI post)) 7 [(0, .ref (κ.1 + 56)), (1, .int x1)] [] M := by
  intro n
  induction n with
  | zero => intro x1 M hq; exact hq.elim
  | succ n ih =>
    intro x1 M hq
    unfold q_Mo_forbids_L7 at hq
    refine G_iload_n C 1 d_Mo_forbids_7 rfl rfl ?_
    refine G_aload_n C 0 d_Mo_forbids_8 rfl rfl ?_
    refine Gg_Mo_points C wd_521 d_Mo_forbids_9 ?_
    refine G_icmp_ge C (tgt := 79) d_Mo_forbids_12 (by decide) (fun c => ?_) (fun c => ?_)
    · replace hq := hq.1 c
      exact G_sub [] (by rfl) (hx79 _ hq)
    · replace hq := hq.2 c
      refine G_iconst C (v := 0) d_Mo_forbids_15 (by decide) ?_
      refine G_istore_n C (lv' := [(2, _), (0, _), (1, _)]) d_Mo_forbids_16 rfl (by decide) rfl ?_
      refine G_iconst C (v := 0) d_Mo_forbids_17 (by decide) ?_
      refine G_istore_n C (lv' := [(3, _), (2, _), (0, _), (1, _)]) d_Mo_forbids_18 rfl (by decide) rfl ?_
      obtain ⟨n3, hq⟩ := hq
      refine G_sub [2, 3, 1, 0] (by rfl) (s_Mo_forbids_L19 C R ?_ n3 _ _ _ _ hq)
      · intro x4 x5 M6 hq
        refine G_iload_n C 2 d_Mo_forbids_67 rfl rfl ?_
        refine G_if_ne C (tgt := 73) d_Mo_forbids_68 (by decide) (fun c => ?_) (fun c => ?_)
        · replace hq := hq.1 c
          refine G_iinc C (v := _ + 1) (lv' := [(1, _), (0, _), (2, _)]) 1 d_Mo_forbids_73 rfl rfl (by decide) rfl ?_
          refine G_goto C (tgt := 7) d_Mo_forbids_76 (by decide) ?_
          exact G_sub [1, 0] (by rfl) (ih _ _ hq)
        · replace hq := hq.2 c
          exact G_sub [1] (by rfl) (hx71 _ _ hq)
def q_Mo_forbids (M : Mem) (post : Int32 → Mem → Prop) : Prop := q_Mo_parts M (fun r2 M1 => ∃ n7, q_Mo_forbids_L7 (fun x8 M9 => post x8 M9) (fun M10 => post (-1 : Int32) M10) post n7 (0 : Int32) M1)
set_option maxHeartbeats 4000000 in
theorem s_Mo_forbids {l : Launch} {κ : Kp} {M : Mem} {post : Int32 → Mem → Prop} (hq : q_Mo_forbids M post) : Ct l κ y_Mo_forbids b_Mo_forbids 4 (some .int) 2 [.ref (κ.1 + 56)] M (pI post) := by
  refine Ct_of (by decide) (Nat.le_of_ble_eq_true rfl) (fun γ hγ C R => ?_)
  subst hγ
  unfold q_Mo_forbids at hq
  show G γ κ 4 (0, 0) (Gq γ κ (pI post)) 0 [(0, .ref (κ.1 + 56))] [] M
  refine G_aload_n C 0 d_Mo_forbids_0 rfl rfl ?_
  refine G_callV C (s_Mo_parts hq) v_Mo_parts i_Mo_parts z_Mo_parts wd_715 (by decide) rfl (k := 56) (ci := 7) (by decide) rfl rfl rfl (rest := []) (by rfl) (Nat.le_of_ble_eq_true rfl) d_Mo_forbids_1 (ki_ (fun r2 M1 hq => ?_))
  refine G_pop C d_Mo_forbids_4 rfl ?_
  refine G_iconst C (v := 0) d_Mo_forbids_5 (by decide) ?_
  refine G_istore_n C (lv' := [(1, _), (0, _)]) d_Mo_forbids_6 rfl (by decide) rfl ?_
  obtain ⟨n7, hq⟩ := hq
  refine G_sub [1, 0] (by rfl) (s_Mo_forbids_L7 C R ?_ ?_ n7 _ _ hq)
  · intro x8 M9 hq
    refine G_iload_n C 0 d_Mo_forbids_71 rfl rfl ?_
    exact G_iret C R d_Mo_forbids_72 ⟨_, rfl, hq⟩
  · intro M10 hq
    refine G_iconst C (v := -1) d_Mo_forbids_79 (by decide) ?_
    exact G_iret C R d_Mo_forbids_80 ⟨_, rfl, hq⟩
theorem d_Mo_raise_0 : decode b_Mo_raise 0 = .ok (.iload_n 1, 1) := by decide +kernel
theorem d_Mo_raise_1 : decode b_Mo_raise 1 = .ok (.invokestatic 102, 3) := by decide +kernel
theorem d_Mo_raise_4 : decode b_Mo_raise 4 = .ok (.ifCond .ne 6, 3) := by decide +kernel
theorem d_Mo_raise_7 : decode b_Mo_raise 7 = .ok (.bipush (-2), 2) := by decide +kernel
theorem d_Mo_raise_9 : decode b_Mo_raise 9 = .ok (.ireturn, 1) := by decide +kernel
theorem d_Mo_raise_10 : decode b_Mo_raise 10 = .ok (.aload_n 0, 1) := by decide +kernel
theorem d_Mo_raise_11 : decode b_Mo_raise 11 = .ok (.getfield 29, 3) := by decide +kernel
theorem d_Mo_raise_14 : decode b_Mo_raise 14 = .ok (.iload_n 1, 1) := by decide +kernel
theorem d_Mo_raise_15 : decode b_Mo_raise 15 = .ok (.iaload, 1) := by decide +kernel
theorem d_Mo_raise_16 : decode b_Mo_raise 16 = .ok (.iconst 2, 1) := by decide +kernel
theorem d_Mo_raise_17 : decode b_Mo_raise 17 = .ok (.if_icmp .ne 6, 3) := by decide +kernel
theorem d_Mo_raise_20 : decode b_Mo_raise 20 = .ok (.bipush (-3), 2) := by decide +kernel
theorem d_Mo_raise_22 : decode b_Mo_raise 22 = .ok (.ireturn, 1) := by decide +kernel
theorem d_Mo_raise_23 : decode b_Mo_raise 23 = .ok (.iconst 0, 1) := by decide +kernel
theorem d_Mo_raise_24 : decode b_Mo_raise 24 = .ok (.istore_n 2, 1) := by decide +kernel
theorem d_Mo_raise_25 : decode b_Mo_raise 25 = .ok (.iload_n 2, 1) := by decide +kernel
theorem d_Mo_raise_26 : decode b_Mo_raise 26 = .ok (.aload_n 0, 1) := by decide +kernel
theorem d_Mo_raise_27 : decode b_Mo_raise 27 = .ok (.getfield 7, 3) := by decide +kernel
theorem d_Mo_raise_30 : decode b_Mo_raise 30 = .ok (.if_icmp .ge 34, 3) := by decide +kernel
theorem d_Mo_raise_33 : decode b_Mo_raise 33 = .ok (.aload_n 0, 1) := by decide +kernel
theorem d_Mo_raise_34 : decode b_Mo_raise 34 = .ok (.getfield 42, 3) := by decide +kernel
theorem d_Mo_raise_37 : decode b_Mo_raise 37 = .ok (.iload_n 2, 1) := by decide +kernel
theorem d_Mo_raise_38 : decode b_Mo_raise 38 = .ok (.aload_n 0, 1) := by decide +kernel
theorem d_Mo_raise_39 : decode b_Mo_raise 39 = .ok (.getfield 29, 3) := by decide +kernel
theorem d_Mo_raise_42 : decode b_Mo_raise 42 = .ok (.iload_n 1, 1) := by decide +kernel
theorem d_Mo_raise_43 : decode b_Mo_raise 43 = .ok (.iaload, 1) := by decide +kernel
theorem d_Mo_raise_44 : decode b_Mo_raise 44 = .ok (.ifCond .ne 12, 3) := by decide +kernel
theorem d_Mo_raise_47 : decode b_Mo_raise 47 = .ok (.aload_n 0, 1) := by decide +kernel
theorem d_Mo_raise_48 : decode b_Mo_raise 48 = .ok (.iload_n 1, 1) := by decide +kernel
theorem d_Mo_raise_49 : decode b_Mo_raise 49 = .ok (.iload_n 2, 1) := by decide +kernel
theorem d_Mo_raise_50 : decode b_Mo_raise 50 = .ok (.invokevirtual 120, 3) := by decide +kernel
theorem d_Mo_raise_53 : decode b_Mo_raise 53 = .ok (.goto 4, 3) := by decide +kernel
theorem d_Mo_raise_56 : decode b_Mo_raise 56 = .ok (.lconst 0, 1) := by decide +kernel
theorem d_Mo_raise_57 : decode b_Mo_raise 57 = .ok (.lastore, 1) := by decide +kernel
theorem d_Mo_raise_58 : decode b_Mo_raise 58 = .ok (.iinc 2 1, 3) := by decide +kernel
theorem d_Mo_raise_61 : decode b_Mo_raise 61 = .ok (.goto (-36), 3) := by decide +kernel
theorem d_Mo_raise_64 : decode b_Mo_raise 64 = .ok (.iconst 0, 1) := by decide +kernel
theorem d_Mo_raise_65 : decode b_Mo_raise 65 = .ok (.istore_n 2, 1) := by decide +kernel
theorem d_Mo_raise_66 : decode b_Mo_raise 66 = .ok (.iload_n 2, 1) := by decide +kernel
theorem d_Mo_raise_67 : decode b_Mo_raise 67 = .ok (.bipush 12, 2) := by decide +kernel
theorem d_Mo_raise_69 : decode b_Mo_raise 69 = .ok (.if_icmp .ge 35, 3) := by decide +kernel
theorem d_Mo_raise_72 : decode b_Mo_raise 72 = .ok (.aload_n 0, 1) := by decide +kernel
theorem d_Mo_raise_73 : decode b_Mo_raise 73 = .ok (.getfield 46, 3) := by decide +kernel
theorem d_Mo_raise_76 : decode b_Mo_raise 76 = .ok (.iload_n 2, 1) := by decide +kernel
theorem d_Mo_raise_77 : decode b_Mo_raise 77 = .ok (.aload_n 0, 1) := by decide +kernel
theorem d_Mo_raise_78 : decode b_Mo_raise 78 = .ok (.getfield 29, 3) := by decide +kernel
theorem d_Mo_raise_81 : decode b_Mo_raise 81 = .ok (.iload_n 1, 1) := by decide +kernel
theorem d_Mo_raise_82 : decode b_Mo_raise 82 = .ok (.iaload, 1) := by decide +kernel
theorem d_Mo_raise_83 : decode b_Mo_raise 83 = .ok (.iconst 1, 1) := by decide +kernel
theorem d_Mo_raise_84 : decode b_Mo_raise 84 = .ok (.if_icmp .ne 12, 3) := by decide +kernel
theorem d_Mo_raise_87 : decode b_Mo_raise 87 = .ok (.aload_n 0, 1) := by decide +kernel
theorem d_Mo_raise_88 : decode b_Mo_raise 88 = .ok (.iload_n 1, 1) := by decide +kernel
theorem d_Mo_raise_89 : decode b_Mo_raise 89 = .ok (.iload_n 2, 1) := by decide +kernel
theorem d_Mo_raise_90 : decode b_Mo_raise 90 = .ok (.invokevirtual 120, 3) := by decide +kernel
theorem d_Mo_raise_93 : decode b_Mo_raise 93 = .ok (.goto 4, 3) := by decide +kernel
theorem d_Mo_raise_96 : decode b_Mo_raise 96 = .ok (.lconst 0, 1) := by decide +kernel
theorem d_Mo_raise_97 : decode b_Mo_raise 97 = .ok (.lastore, 1) := by decide +kernel
theorem d_Mo_raise_98 : decode b_Mo_raise 98 = .ok (.iinc 2 1, 3) := by decide +kernel
theorem d_Mo_raise_101 : decode b_Mo_raise 101 = .ok (.goto (-35), 3) := by decide +kernel
theorem d_Mo_raise_104 : decode b_Mo_raise 104 = .ok (.aload_n 0, 1) := by decide +kernel
theorem d_Mo_raise_105 : decode b_Mo_raise 105 = .ok (.iconst 0, 1) := by decide +kernel
theorem d_Mo_raise_106 : decode b_Mo_raise 106 = .ok (.putfield 85, 3) := by decide +kernel
theorem d_Mo_raise_109 : decode b_Mo_raise 109 = .ok (.iconst 1, 1) := by decide +kernel
theorem d_Mo_raise_110 : decode b_Mo_raise 110 = .ok (.ireturn, 1) := by decide +kernel
def q_Mo_raise_L25 (kx64 : Int32 → Mem → Prop) (post : Int32 → Mem → Prop) : Nat → Int32 → Int32 → Mem → Prop
  | 0, _, _, _ => False
  | n + 1, x1, x2, M => ((M.1 56 0) ≤ x2 → kx64 x1 M) ∧ (¬ (M.1 56 0) ≤ x2 → vp_in x1 12 ∧ ((¬ (M.1 62 x1.toNatClampNeg) = 0 → vp_in x2 6 ∧ (∀ M3, M3 = wJ M 66 x2.toNatClampNeg (0 : Int64) → q_Mo_raise_L25 kx64 post n x1 (x2 + 1) M3)) ∧ ((M.1 62 x1.toNatClampNeg) = 0 → q_Mo_at x1 x2 M (fun r5 M4 => vp_in x2 6 ∧ (∀ M6, M6 = wJ M4 66 x2.toNatClampNeg r5 → q_Mo_raise_L25 kx64 post n x1 (x2 + 1) M6)))))
set_option maxHeartbeats 4000000 in
theorem s_Mo_raise_L25 {γ : Gm} {κ : Kp} {post : Int32 → Mem → Prop} {kx64 : Int32 → Mem → Prop} (C : Cx γ κ "NetFormsModel" b_Mo_raise 3 2 (0, 0)) (R : Rt γ (some .int)) (hx64 : ∀ y1 M', kx64 y1 M' → G γ κ 3 (0, 0) (Gq γ κ (pI post)) 64 [(0, .ref (κ.1 + 56)), (1, .int y1)] [] M') : ∀ (n : Nat) (x1 : Int32) (x2 : Int32) (M : Mem), q_Mo_raise_L25 kx64 post n x1 x2 M → G γ κ 3 (0, 0) (Gq γ κ (pI post)) 25 [(0, .ref (κ.1 + 56)), (1, .int x1), (2, .int x2)] [] M := by
  intro n
  induction n with
  | zero => intro x1 x2 M hq; exact hq.elim
  | succ n ih =>
    intro x1 x2 M hq
    unfold q_Mo_raise_L25 at hq
    refine G_iload_n C 2 d_Mo_raise_25 rfl rfl ?_
    refine G_aload_n C 0 d_Mo_raise_26 rfl rfl ?_
    refine Gg_Mo_points C wd_521 d_Mo_raise_27 ?_
    refine G_icmp_ge C (tgt := 64) d_Mo_raise_30 (by decide) (fun c => ?_) (fun c => ?_)
    · replace hq := hq.1 c
      exact G_sub [0, 1] (by rfl) (hx64 _ _ hq)
    · replace hq := hq.2 c
      refine G_aload_n C 0 d_Mo_raise_33 rfl rfl ?_
      refine Gg_Mo_height C wd_533 d_Mo_raise_34 ?_
      refine G_iload_n C 2 d_Mo_raise_37 rfl rfl ?_
      refine G_aload_n C 0 d_Mo_raise_38 rfl rfl ?_
      refine Gg_Mo_degree C wd_529 d_Mo_raise_39 ?_
      refine G_iload_n C 1 d_Mo_raise_42 rfl rfl ?_
      refine G_iaload C (k := 62) (by decide) (fun _ _ => rfl) hq.1 d_Mo_raise_43 ?_
      replace hq := hq.2
      refine G_if_ne C (tgt := 56) d_Mo_raise_44 (by decide) (fun c => ?_) (fun c => ?_)
      · replace hq := hq.1 c
        refine G_lconst C (v := 0) d_Mo_raise_56 (by decide) ?_
        refine G_lastore C (k := 66) (by decide) (fun _ _ => rfl) hq.1 d_Mo_raise_57 ?_
        replace hq := hq.2 _ rfl
        refine G_iinc C (v := _ + 1) (lv' := [(2, _), (0, _), (1, _)]) 2 d_Mo_raise_58 rfl rfl (by decide) rfl ?_
        refine G_goto C (tgt := 25) d_Mo_raise_61 (by decide) ?_
        exact G_sub [1, 2, 0] (by rfl) (ih _ _ _ hq)
      · replace hq := hq.2 c
        refine G_aload_n C 0 d_Mo_raise_47 rfl rfl ?_
        refine G_iload_n C 1 d_Mo_raise_48 rfl rfl ?_
        refine G_iload_n C 2 d_Mo_raise_49 rfl rfl ?_
        refine G_callV C (s_Mo_at hq) v_Mo_at i_Mo_at z_Mo_at wd_668 (by decide) rfl (k := 56) (ci := 7) (by decide) rfl rfl rfl (rest := [_, _]) (by rfl) (Nat.le_of_ble_eq_true rfl) d_Mo_raise_50 (kj_ (fun r5 M4 hq => ?_))
        refine G_goto C (tgt := 57) d_Mo_raise_53 (by decide) ?_
        refine G_lastore C (k := 66) (by decide) (fun _ _ => rfl) hq.1 d_Mo_raise_57 ?_
        replace hq := hq.2 _ rfl
        refine G_iinc C (v := _ + 1) (lv' := [(2, _), (0, _), (1, _)]) 2 d_Mo_raise_58 rfl rfl (by decide) rfl ?_
        refine G_goto C (tgt := 25) d_Mo_raise_61 (by decide) ?_
        exact G_sub [1, 2, 0] (by rfl) (ih _ _ _ hq)
def q_Mo_raise_L66 (kx104 : Mem → Prop) (post : Int32 → Mem → Prop) : Nat → Int32 → Int32 → Mem → Prop
  | 0, _, _, _ => False
  | n + 1, x1, x2, M => ((12 : Int32) ≤ x2 → kx104 M) ∧ (¬ (12 : Int32) ≤ x2 → vp_in x1 12 ∧ ((¬ (M.1 62 x1.toNatClampNeg) = (1 : Int32) → vp_in x2 12 ∧ (∀ M10, M10 = wJ M 67 x2.toNatClampNeg (0 : Int64) → q_Mo_raise_L66 kx104 post n x1 (x2 + 1) M10)) ∧ ((M.1 62 x1.toNatClampNeg) = (1 : Int32) → q_Mo_at x1 x2 M (fun r12 M11 => vp_in x2 12 ∧ (∀ M13, M13 = wJ M11 67 x2.toNatClampNeg r12 → q_Mo_raise_L66 kx104 post n x1 (x2 + 1) M13)))))
set_option maxHeartbeats 4000000 in
theorem s_Mo_raise_L66 {γ : Gm} {κ : Kp} {post : Int32 → Mem → Prop} {kx104 : Mem → Prop} (C : Cx γ κ "NetFormsModel" b_Mo_raise 3 2 (0, 0)) (R : Rt γ (some .int)) (hx104 : ∀ M', kx104 M' → G γ κ 3 (0, 0) (Gq γ κ (pI post)) 104 [(0, .ref (κ.1 + 56))] [] M') : ∀ (n : Nat) (x1 : Int32) (x2 : Int32) (M : Mem), q_Mo_raise_L66 kx104 post n x1 x2 M → G γ κ 3 (0, 0) (Gq γ κ (pI post)) 66 [(0, .ref (κ.1 + 56)), (1, .int x1), (2, .int x2)] [] M := by
  intro n
  induction n with
  | zero => intro x1 x2 M hq; exact hq.elim
  | succ n ih =>
    intro x1 x2 M hq
    unfold q_Mo_raise_L66 at hq
    refine G_iload_n C 2 d_Mo_raise_66 rfl rfl ?_
    refine G_bipush C (v := 12) d_Mo_raise_67 (by decide) ?_
    refine G_icmp_ge C (tgt := 104) d_Mo_raise_69 (by decide) (fun c => ?_) (fun c => ?_)
    · replace hq := hq.1 c
      exact G_sub [0] (by rfl) (hx104 _ hq)
    · replace hq := hq.2 c
      refine G_aload_n C 0 d_Mo_raise_72 rfl rfl ?_
      refine Gg_Mo_flow C wd_534 d_Mo_raise_73 ?_
      refine G_iload_n C 2 d_Mo_raise_76 rfl rfl ?_
      refine G_aload_n C 0 d_Mo_raise_77 rfl rfl ?_
      refine Gg_Mo_degree C wd_529 d_Mo_raise_78 ?_
      refine G_iload_n C 1 d_Mo_raise_81 rfl rfl ?_
      refine G_iaload C (k := 62) (by decide) (fun _ _ => rfl) hq.1 d_Mo_raise_82 ?_
      replace hq := hq.2
      refine G_iconst C (v := 1) d_Mo_raise_83 (by decide) ?_
      refine G_icmp_ne C (tgt := 96) d_Mo_raise_84 (by decide) (fun c => ?_) (fun c => ?_)
      · replace hq := hq.1 c
        refine G_lconst C (v := 0) d_Mo_raise_96 (by decide) ?_
        refine G_lastore C (k := 67) (by decide) (fun _ _ => rfl) hq.1 d_Mo_raise_97 ?_
        replace hq := hq.2 _ rfl
        refine G_iinc C (v := _ + 1) (lv' := [(2, _), (0, _), (1, _)]) 2 d_Mo_raise_98 rfl rfl (by decide) rfl ?_
        refine G_goto C (tgt := 66) d_Mo_raise_101 (by decide) ?_
        exact G_sub [1, 2, 0] (by rfl) (ih _ _ _ hq)
      · replace hq := hq.2 c
        refine G_aload_n C 0 d_Mo_raise_87 rfl rfl ?_
        refine G_iload_n C 1 d_Mo_raise_88 rfl rfl ?_
        refine G_iload_n C 2 d_Mo_raise_89 rfl rfl ?_
        refine G_callV C (s_Mo_at hq) v_Mo_at i_Mo_at z_Mo_at wd_668 (by decide) rfl (k := 56) (ci := 7) (by decide) rfl rfl rfl (rest := [_, _]) (by rfl) (Nat.le_of_ble_eq_true rfl) d_Mo_raise_90 (kj_ (fun r12 M11 hq => ?_))
        refine G_goto C (tgt := 97) d_Mo_raise_93 (by decide) ?_
        refine G_lastore C (k := 67) (by decide) (fun _ _ => rfl) hq.1 d_Mo_raise_97 ?_
        replace hq := hq.2 _ rfl
        refine G_iinc C (v := _ + 1) (lv' := [(2, _), (0, _), (1, _)]) 2 d_Mo_raise_98 rfl rfl (by decide) rfl ?_
        refine G_goto C (tgt := 66) d_Mo_raise_101 (by decide) ?_
        exact G_sub [1, 2, 0] (by rfl) (ih _ _ _ hq)
def q_Mo_raise (a1 : Int32) (M : Mem) (post : Int32 → Mem → Prop) : Prop := q_Mo_isForm a1 M (fun r2 M1 => (¬ r2 = 0 → vp_in a1 12 ∧ ((¬ (M1.1 62 a1.toNatClampNeg) = (2 : Int32) → ∃ n7, q_Mo_raise_L25 (fun x8 M9 => ∃ n14, q_Mo_raise_L66 (fun M15 => ∀ M16, M16 = wI M15 56 14 (0 : Int32) → post (1 : Int32) M16) post n14 x8 (0 : Int32) M9) post n7 a1 (0 : Int32) M1) ∧ ((M1.1 62 a1.toNatClampNeg) = (2 : Int32) → post (-3 : Int32) M1))) ∧ (r2 = 0 → post (-2 : Int32) M1))
set_option maxHeartbeats 4000000 in
theorem s_Mo_raise {l : Launch} {κ : Kp} {a1 : Int32} {M : Mem} {post : Int32 → Mem → Prop} (hq : q_Mo_raise a1 M post) : Ct l κ y_Mo_raise b_Mo_raise 3 (some .int) 2 [.ref (κ.1 + 56), .int a1] M (pI post) := by
  refine Ct_of (by decide) (Nat.le_of_ble_eq_true rfl) (fun γ hγ C R => ?_)
  subst hγ
  unfold q_Mo_raise at hq
  show G γ κ 3 (0, 0) (Gq γ κ (pI post)) 0 [(0, .ref (κ.1 + 56)), (1, .int a1)] [] M
  refine G_iload_n C 1 d_Mo_raise_0 rfl rfl ?_
  refine G_callS C (s_Mo_isForm hq) v_Mo_isForm z_Mo_isForm wd_636 (by decide) rfl (rest := []) (by rfl) (Nat.le_of_ble_eq_true rfl) d_Mo_raise_1 (ki_ (fun r2 M1 hq => ?_))
  refine G_if_ne C (tgt := 10) d_Mo_raise_4 (by decide) (fun c => ?_) (fun c => ?_)
  · replace hq := hq.1 c
    refine G_aload_n C 0 d_Mo_raise_10 rfl rfl ?_
    refine Gg_Mo_degree C wd_529 d_Mo_raise_11 ?_
    refine G_iload_n C 1 d_Mo_raise_14 rfl rfl ?_
    refine G_iaload C (k := 62) (by decide) (fun _ _ => rfl) hq.1 d_Mo_raise_15 ?_
    replace hq := hq.2
    refine G_iconst C (v := 2) d_Mo_raise_16 (by decide) ?_
    refine G_icmp_ne C (tgt := 23) d_Mo_raise_17 (by decide) (fun c => ?_) (fun c => ?_)
    · replace hq := hq.1 c
      refine G_iconst C (v := 0) d_Mo_raise_23 (by decide) ?_
      refine G_istore_n C (lv' := [(2, _), (0, _), (1, _)]) d_Mo_raise_24 rfl (by decide) rfl ?_
      obtain ⟨n7, hq⟩ := hq
      refine G_sub [1, 2, 0] (by rfl) (s_Mo_raise_L25 C R ?_ n7 _ _ _ hq)
      · intro x8 M9 hq
        refine G_iconst C (v := 0) d_Mo_raise_64 (by decide) ?_
        refine G_istore_n C (lv' := [(2, _), (0, _), (1, _)]) d_Mo_raise_65 rfl (by decide) rfl ?_
        obtain ⟨n14, hq⟩ := hq
        refine G_sub [1, 2, 0] (by rfl) (s_Mo_raise_L66 C R ?_ n14 _ _ _ hq)
        · intro M15 hq
          refine G_aload_n C 0 d_Mo_raise_104 rfl rfl ?_
          refine G_iconst C (v := 0) d_Mo_raise_105 (by decide) ?_
          refine Gp_Mo_steps C wd_535 d_Mo_raise_106 ?_
          replace hq := hq _ rfl
          refine G_iconst C (v := 1) d_Mo_raise_109 (by decide) ?_
          exact G_iret C R d_Mo_raise_110 ⟨_, rfl, hq⟩
    · replace hq := hq.2 c
      refine G_bipush C (v := -3) d_Mo_raise_20 (by decide) ?_
      exact G_iret C R d_Mo_raise_22 ⟨_, rfl, hq⟩
  · replace hq := hq.2 c
    refine G_bipush C (v := -2) d_Mo_raise_7 (by decide) ?_
    exact G_iret C R d_Mo_raise_9 ⟨_, rfl, hq⟩
theorem d_Mo_height_0 : decode b_Mo_height 0 = .ok (.aload_n 0, 1) := by decide +kernel
theorem d_Mo_height_1 : decode b_Mo_height 1 = .ok (.iload_n 1, 1) := by decide +kernel
theorem d_Mo_height_2 : decode b_Mo_height 2 = .ok (.invokevirtual 92, 3) := by decide +kernel
theorem d_Mo_height_5 : decode b_Mo_height 5 = .ok (.ifCond .eq 12, 3) := by decide +kernel
theorem d_Mo_height_8 : decode b_Mo_height 8 = .ok (.aload_n 0, 1) := by decide +kernel
theorem d_Mo_height_9 : decode b_Mo_height 9 = .ok (.getfield 42, 3) := by decide +kernel
theorem d_Mo_height_12 : decode b_Mo_height 12 = .ok (.iload_n 1, 1) := by decide +kernel
theorem d_Mo_height_13 : decode b_Mo_height 13 = .ok (.laload, 1) := by decide +kernel
theorem d_Mo_height_14 : decode b_Mo_height 14 = .ok (.goto 4, 3) := by decide +kernel
theorem d_Mo_height_17 : decode b_Mo_height 17 = .ok (.lconst 0, 1) := by decide +kernel
theorem d_Mo_height_18 : decode b_Mo_height 18 = .ok (.lreturn, 1) := by decide +kernel
def q_Mo_height (a1 : Int32) (M : Mem) (post : Int64 → Mem → Prop) : Prop := q_Mo_isPoint a1 M (fun r2 M1 => (r2 = 0 → post (0 : Int64) M1) ∧ (¬ r2 = 0 → vp_in a1 6 ∧ (post (M1.2 66 a1.toNatClampNeg) M1)))
set_option maxHeartbeats 4000000 in
theorem s_Mo_height {l : Launch} {κ : Kp} {a1 : Int32} {M : Mem} {post : Int64 → Mem → Prop} (hq : q_Mo_height a1 M post) : Ct l κ y_Mo_height b_Mo_height 2 (some .long) 2 [.ref (κ.1 + 56), .int a1] M (pJ post) := by
  refine Ct_of (by decide) (Nat.le_of_ble_eq_true rfl) (fun γ hγ C R => ?_)
  subst hγ
  unfold q_Mo_height at hq
  show G γ κ 2 (0, 0) (Gq γ κ (pJ post)) 0 [(0, .ref (κ.1 + 56)), (1, .int a1)] [] M
  refine G_aload_n C 0 d_Mo_height_0 rfl rfl ?_
  refine G_iload_n C 1 d_Mo_height_1 rfl rfl ?_
  refine G_callV C (s_Mo_isPoint hq) v_Mo_isPoint i_Mo_isPoint z_Mo_isPoint wd_616 (by decide) rfl (k := 56) (ci := 7) (by decide) rfl rfl rfl (rest := []) (by rfl) (Nat.le_of_ble_eq_true rfl) d_Mo_height_2 (ki_ (fun r2 M1 hq => ?_))
  refine G_if_eq C (tgt := 17) d_Mo_height_5 (by decide) (fun c => ?_) (fun c => ?_)
  · replace hq := hq.1 c
    refine G_lconst C (v := 0) d_Mo_height_17 (by decide) ?_
    exact G_lret C R d_Mo_height_18 ⟨_, rfl, hq⟩
  · replace hq := hq.2 c
    refine G_aload_n C 0 d_Mo_height_8 rfl rfl ?_
    refine Gg_Mo_height C wd_533 d_Mo_height_9 ?_
    refine G_iload_n C 1 d_Mo_height_12 rfl rfl ?_
    refine G_laload C (k := 66) (by decide) (fun _ _ => rfl) hq.1 d_Mo_height_13 ?_
    replace hq := hq.2
    refine G_goto C (tgt := 18) d_Mo_height_14 (by decide) ?_
    exact G_lret C R d_Mo_height_18 ⟨_, rfl, hq⟩
theorem d_Mo_count_0 : decode b_Mo_count 0 = .ok (.iconst 0, 1) := by decide +kernel
theorem d_Mo_count_1 : decode b_Mo_count 1 = .ok (.istore_n 2, 1) := by decide +kernel
theorem d_Mo_count_2 : decode b_Mo_count 2 = .ok (.iload_n 1, 1) := by decide +kernel
theorem d_Mo_count_3 : decode b_Mo_count 3 = .ok (.tableswitch 88 0 4 #[33, 38, 43, 48, 83], 33) := by decide +kernel
theorem d_Mo_count_36 : decode b_Mo_count 36 = .ok (.aload_n 0, 1) := by decide +kernel
theorem d_Mo_count_37 : decode b_Mo_count 37 = .ok (.getfield 7, 3) := by decide +kernel
theorem d_Mo_count_40 : decode b_Mo_count 40 = .ok (.ireturn, 1) := by decide +kernel
theorem d_Mo_count_41 : decode b_Mo_count 41 = .ok (.aload_n 0, 1) := by decide +kernel
theorem d_Mo_count_42 : decode b_Mo_count 42 = .ok (.getfield 79, 3) := by decide +kernel
theorem d_Mo_count_45 : decode b_Mo_count 45 = .ok (.ireturn, 1) := by decide +kernel
theorem d_Mo_count_46 : decode b_Mo_count 46 = .ok (.aload_n 0, 1) := by decide +kernel
theorem d_Mo_count_47 : decode b_Mo_count 47 = .ok (.getfield 82, 3) := by decide +kernel
theorem d_Mo_count_50 : decode b_Mo_count 50 = .ok (.ireturn, 1) := by decide +kernel
theorem d_Mo_count_51 : decode b_Mo_count 51 = .ok (.iconst 0, 1) := by decide +kernel
theorem d_Mo_count_52 : decode b_Mo_count 52 = .ok (.istore_n 3, 1) := by decide +kernel
theorem d_Mo_count_53 : decode b_Mo_count 53 = .ok (.iload_n 3, 1) := by decide +kernel
theorem d_Mo_count_54 : decode b_Mo_count 54 = .ok (.aload_n 0, 1) := by decide +kernel
theorem d_Mo_count_55 : decode b_Mo_count 55 = .ok (.getfield 7, 3) := by decide +kernel
theorem d_Mo_count_58 : decode b_Mo_count 58 = .ok (.if_icmp .ge 26, 3) := by decide +kernel
theorem d_Mo_count_61 : decode b_Mo_count 61 = .ok (.iload_n 2, 1) := by decide +kernel
theorem d_Mo_count_62 : decode b_Mo_count 62 = .ok (.aload_n 0, 1) := by decide +kernel
theorem d_Mo_count_63 : decode b_Mo_count 63 = .ok (.getfield 35, 3) := by decide +kernel
theorem d_Mo_count_66 : decode b_Mo_count 66 = .ok (.iload_n 3, 1) := by decide +kernel
theorem d_Mo_count_67 : decode b_Mo_count 67 = .ok (.baload, 1) := by decide +kernel
theorem d_Mo_count_68 : decode b_Mo_count 68 = .ok (.ifCond .eq 7, 3) := by decide +kernel
theorem d_Mo_count_71 : decode b_Mo_count 71 = .ok (.iconst 1, 1) := by decide +kernel
theorem d_Mo_count_72 : decode b_Mo_count 72 = .ok (.goto 4, 3) := by decide +kernel
theorem d_Mo_count_75 : decode b_Mo_count 75 = .ok (.iconst 0, 1) := by decide +kernel
theorem d_Mo_count_76 : decode b_Mo_count 76 = .ok (.iadd, 1) := by decide +kernel
theorem d_Mo_count_77 : decode b_Mo_count 77 = .ok (.istore_n 2, 1) := by decide +kernel
theorem d_Mo_count_78 : decode b_Mo_count 78 = .ok (.iinc 3 1, 3) := by decide +kernel
theorem d_Mo_count_81 : decode b_Mo_count 81 = .ok (.goto (-28), 3) := by decide +kernel
theorem d_Mo_count_84 : decode b_Mo_count 84 = .ok (.iload_n 2, 1) := by decide +kernel
theorem d_Mo_count_85 : decode b_Mo_count 85 = .ok (.ireturn, 1) := by decide +kernel
theorem d_Mo_count_86 : decode b_Mo_count 86 = .ok (.aload_n 0, 1) := by decide +kernel
theorem d_Mo_count_87 : decode b_Mo_count 87 = .ok (.invokevirtual 162, 3) := by decide +kernel
theorem d_Mo_count_90 : decode b_Mo_count 90 = .ok (.ireturn, 1) := by decide +kernel
theorem d_Mo_count_91 : decode b_Mo_count 91 = .ok (.bipush (-2), 2) := by decide +kernel
theorem d_Mo_count_93 : decode b_Mo_count 93 = .ok (.ireturn, 1) := by decide +kernel
def q_Mo_count_L53 (kx84 : Int32 → Mem → Prop) (post : Int32 → Mem → Prop) : Nat → Int32 → Int32 → Mem → Prop
  | 0, _, _, _ => False
  | n + 1, x2, x3, M => ((M.1 56 0) ≤ x3 → kx84 x2 M) ∧ (¬ (M.1 56 0) ≤ x3 → vp_in x3 6 ∧ (((M.1 64 x3.toNatClampNeg) = 0 → q_Mo_count_L53 kx84 post n (x2 + (0 : Int32)) (x3 + 1) M) ∧ (¬ (M.1 64 x3.toNatClampNeg) = 0 → q_Mo_count_L53 kx84 post n (x2 + (1 : Int32)) (x3 + 1) M)))
set_option maxHeartbeats 4000000 in
theorem s_Mo_count_L53 {γ : Gm} {κ : Kp} {post : Int32 → Mem → Prop} {kx84 : Int32 → Mem → Prop} (C : Cx γ κ "NetFormsModel" b_Mo_count 4 2 (0, 0)) (R : Rt γ (some .int)) (hx84 : ∀ y0 M', kx84 y0 M' → G γ κ 4 (0, 0) (Gq γ κ (pI post)) 84 [(2, .int y0)] [] M') : ∀ (n : Nat) (x2 : Int32) (x3 : Int32) (M : Mem), q_Mo_count_L53 kx84 post n x2 x3 M → G γ κ 4 (0, 0) (Gq γ κ (pI post)) 53 [(0, .ref (κ.1 + 56)), (2, .int x2), (3, .int x3)] [] M := by
  intro n
  induction n with
  | zero => intro x2 x3 M hq; exact hq.elim
  | succ n ih =>
    intro x2 x3 M hq
    unfold q_Mo_count_L53 at hq
    refine G_iload_n C 2 d_Mo_count_53 rfl rfl ?_
    refine G_aload_n C 0 d_Mo_count_54 rfl rfl ?_
    refine Gg_Mo_points C wd_521 d_Mo_count_55 ?_
    refine G_icmp_ge C (tgt := 84) d_Mo_count_58 (by decide) (fun c => ?_) (fun c => ?_)
    · replace hq := hq.1 c
      exact G_sub [1] (by rfl) (hx84 _ _ hq)
    · replace hq := hq.2 c
      refine G_iload_n C 1 d_Mo_count_61 rfl rfl ?_
      refine G_aload_n C 0 d_Mo_count_62 rfl rfl ?_
      refine Gg_Mo_isWall C wd_531 d_Mo_count_63 ?_
      refine G_iload_n C 2 d_Mo_count_66 rfl rfl ?_
      refine G_baload C (k := 64) (by decide) (fun _ _ => rfl) hq.1 d_Mo_count_67 ?_
      replace hq := hq.2
      refine G_if_eq C (tgt := 75) d_Mo_count_68 (by decide) (fun c => ?_) (fun c => ?_)
      · replace hq := hq.1 c
        refine G_iconst C (v := 0) d_Mo_count_75 (by decide) ?_
        refine G_iadd C d_Mo_count_76 ?_
        refine G_istore_n C (lv' := [(2, _), (0, _), (3, _)]) d_Mo_count_77 rfl (by decide) rfl ?_
        refine G_iinc C (v := _ + 1) (lv' := [(3, _), (2, _), (0, _)]) 2 d_Mo_count_78 rfl rfl (by decide) rfl ?_
        refine G_goto C (tgt := 53) d_Mo_count_81 (by decide) ?_
        exact G_sub [2, 1, 0] (by rfl) (ih _ _ _ hq)
      · replace hq := hq.2 c
        refine G_iconst C (v := 1) d_Mo_count_71 (by decide) ?_
        refine G_goto C (tgt := 76) d_Mo_count_72 (by decide) ?_
        refine G_iadd C d_Mo_count_76 ?_
        refine G_istore_n C (lv' := [(2, _), (0, _), (3, _)]) d_Mo_count_77 rfl (by decide) rfl ?_
        refine G_iinc C (v := _ + 1) (lv' := [(3, _), (2, _), (0, _)]) 2 d_Mo_count_78 rfl rfl (by decide) rfl ?_
        refine G_goto C (tgt := 53) d_Mo_count_81 (by decide) ?_
        exact G_sub [2, 1, 0] (by rfl) (ih _ _ _ hq)
def q_Mo_count (a1 : Int32) (M : Mem) (post : Int32 → Mem → Prop) : Prop := (a1 = nI 0 → post (M.1 56 0) M) ∧ (a1 = nI 1 → post (M.1 56 1) M) ∧ (a1 = nI 2 → post (M.1 56 2) M) ∧ (a1 = nI 3 → ∃ n1, q_Mo_count_L53 (fun x2 M3 => post x2 M3) post n1 (0 : Int32) (0 : Int32) M) ∧ (a1 = nI 4 → q_Mo_parts M (fun r5 M4 => post r5 M4)) ∧ (((a1).toInt < 0 ∨ 4 < (a1).toInt) → post (-2 : Int32) M)
set_option maxHeartbeats 4000000 in
theorem s_Mo_count {l : Launch} {κ : Kp} {a1 : Int32} {M : Mem} {post : Int32 → Mem → Prop} (hq : q_Mo_count a1 M post) : Ct l κ y_Mo_count b_Mo_count 4 (some .int) 2 [.ref (κ.1 + 56), .int a1] M (pI post) := by
  refine Ct_of (by decide) (Nat.le_of_ble_eq_true rfl) (fun γ hγ C R => ?_)
  subst hγ
  unfold q_Mo_count at hq
  show G γ κ 4 (0, 0) (Gq γ κ (pI post)) 0 [(0, .ref (κ.1 + 56)), (1, .int a1)] [] M
  refine G_iconst C (v := 0) d_Mo_count_0 (by decide) ?_
  refine G_istore_n C (lv' := [(2, _), (0, _), (1, _)]) d_Mo_count_1 rfl (by decide) rfl ?_
  refine G_iload_n C 2 d_Mo_count_2 rfl rfl ?_
  refine G_switch C (hi := 4) (tg := fun i => [36, 41, 46, 51, 86].getD i 0) (dt := 91) d_Mo_count_3 (by decide) (by decide) (fun i hi c => ?_) (fun c => ?_)
  · match i, hi, c with
    | 0, _, c =>
      replace hq := hq.1 c
      refine G_aload_n C 1 d_Mo_count_36 rfl rfl ?_
      refine Gg_Mo_points C wd_521 d_Mo_count_37 ?_
      exact G_iret C R d_Mo_count_40 ⟨_, rfl, hq⟩
    | 1, _, c =>
      replace hq := hq.2.1 c
      refine G_aload_n C 1 d_Mo_count_41 rfl rfl ?_
      refine Gg_Mo_edges C wd_522 d_Mo_count_42 ?_
      exact G_iret C R d_Mo_count_45 ⟨_, rfl, hq⟩
    | 2, _, c =>
      replace hq := hq.2.2.1 c
      refine G_aload_n C 1 d_Mo_count_46 rfl rfl ?_
      refine Gg_Mo_faces C wd_523 d_Mo_count_47 ?_
      exact G_iret C R d_Mo_count_50 ⟨_, rfl, hq⟩
    | 3, _, c =>
      replace hq := hq.2.2.2.1 c
      refine G_iconst C (v := 0) d_Mo_count_51 (by decide) ?_
      refine G_istore_n C (lv' := [(3, _), (2, _), (0, _), (1, _)]) d_Mo_count_52 rfl (by decide) rfl ?_
      obtain ⟨n1, hq⟩ := hq
      refine G_sub [2, 1, 0] (by rfl) (s_Mo_count_L53 C R ?_ n1 _ _ _ hq)
      · intro x2 M3 hq
        refine G_iload_n C 0 d_Mo_count_84 rfl rfl ?_
        exact G_iret C R d_Mo_count_85 ⟨_, rfl, hq⟩
    | 4, _, c =>
      replace hq := hq.2.2.2.2.1 c
      refine G_aload_n C 1 d_Mo_count_86 rfl rfl ?_
      refine G_callV C (s_Mo_parts hq) v_Mo_parts i_Mo_parts z_Mo_parts wd_715 (by decide) rfl (k := 56) (ci := 7) (by decide) rfl rfl rfl (rest := []) (by rfl) (Nat.le_of_ble_eq_true rfl) d_Mo_count_87 (ki_ (fun r5 M4 hq => ?_))
      exact G_iret C R d_Mo_count_90 ⟨_, rfl, hq⟩
  · replace hq := hq.2.2.2.2.2 c
    refine G_bipush C (v := -2) d_Mo_count_91 (by decide) ?_
    exact G_iret C R d_Mo_count_93 ⟨_, rfl, hq⟩
theorem d_Nf_slope_0 : decode b_Nf_slope 0 = .ok (.aload_n 0, 1) := by decide +kernel
theorem d_Nf_slope_1 : decode b_Nf_slope 1 = .ok (.iload_n 1, 1) := by decide +kernel
theorem d_Nf_slope_2 : decode b_Nf_slope 2 = .ok (.invokevirtual 91, 3) := by decide +kernel
theorem d_Nf_slope_5 : decode b_Nf_slope 5 = .ok (.astore_n 3, 1) := by decide +kernel
theorem d_Nf_slope_6 : decode b_Nf_slope 6 = .ok (.aload_n 0, 1) := by decide +kernel
theorem d_Nf_slope_7 : decode b_Nf_slope 7 = .ok (.iload_n 2, 1) := by decide +kernel
theorem d_Nf_slope_8 : decode b_Nf_slope 8 = .ok (.invokevirtual 91, 3) := by decide +kernel
theorem d_Nf_slope_11 : decode b_Nf_slope 11 = .ok (.astore 4, 2) := by decide +kernel
theorem d_Nf_slope_13 : decode b_Nf_slope 13 = .ok (.aload_n 3, 1) := by decide +kernel
theorem d_Nf_slope_14 : decode b_Nf_slope 14 = .ok (.ifnull 8, 3) := by decide +kernel
theorem d_Nf_slope_17 : decode b_Nf_slope 17 = .ok (.aload 4, 2) := by decide +kernel
theorem d_Nf_slope_19 : decode b_Nf_slope 19 = .ok (.ifnonnull 6, 3) := by decide +kernel
theorem d_Nf_slope_22 : decode b_Nf_slope 22 = .ok (.bipush (-2), 2) := by decide +kernel
theorem d_Nf_slope_24 : decode b_Nf_slope 24 = .ok (.ireturn, 1) := by decide +kernel
theorem d_Nf_slope_25 : decode b_Nf_slope 25 = .ok (.aload_n 3, 1) := by decide +kernel
theorem d_Nf_slope_26 : decode b_Nf_slope 26 = .ok (.getfield 95, 3) := by decide +kernel
theorem d_Nf_slope_29 : decode b_Nf_slope 29 = .ok (.iconst 2, 1) := by decide +kernel
theorem d_Nf_slope_30 : decode b_Nf_slope 30 = .ok (.if_icmp .ne 6, 3) := by decide +kernel
theorem d_Nf_slope_33 : decode b_Nf_slope 33 = .ok (.bipush (-3), 2) := by decide +kernel
theorem d_Nf_slope_35 : decode b_Nf_slope 35 = .ok (.ireturn, 1) := by decide +kernel
theorem d_Nf_slope_36 : decode b_Nf_slope 36 = .ok (.aload_n 0, 1) := by decide +kernel
theorem d_Nf_slope_37 : decode b_Nf_slope 37 = .ok (.aload_n 3, 1) := by decide +kernel
theorem d_Nf_slope_38 : decode b_Nf_slope 38 = .ok (.invokevirtual 108, 3) := by decide +kernel
theorem d_Nf_slope_41 : decode b_Nf_slope 41 = .ok (.aload_n 0, 1) := by decide +kernel
theorem d_Nf_slope_42 : decode b_Nf_slope 42 = .ok (.aload 4, 2) := by decide +kernel
theorem d_Nf_slope_44 : decode b_Nf_slope 44 = .ok (.aload_n 3, 1) := by decide +kernel
theorem d_Nf_slope_45 : decode b_Nf_slope 45 = .ok (.getfield 95, 3) := by decide +kernel
theorem d_Nf_slope_48 : decode b_Nf_slope 48 = .ok (.iconst 1, 1) := by decide +kernel
theorem d_Nf_slope_49 : decode b_Nf_slope 49 = .ok (.iadd, 1) := by decide +kernel
theorem d_Nf_slope_50 : decode b_Nf_slope 50 = .ok (.invokevirtual 112, 3) := by decide +kernel
theorem d_Nf_slope_53 : decode b_Nf_slope 53 = .ok (.ireturn, 1) := by decide +kernel
def q_Nf_slope (a1 : Int32) (a2 : Int32) (M : Mem) (post : Int32 → Mem → Prop) : Prop := q_Nf_formAt a1 M (fun r2 M1 => q_Nf_formAt a2 M1 (fun r4 M3 => (r2 = none → post (-2 : Int32) M3) ∧ (∀ i5, r2 = some i5 → i5 < 12 ∧ ((r4 = none → post (-2 : Int32) M3) ∧ (∀ i6, r4 = some i6 → i6 < 12 ∧ ((¬ (M3.1 (32 + 2 * i5) 0) = (2 : Int32) → q_Nf_makeSlope i5 M3 (fun M7 => q_Nf_giveMade i6 ((M7.1 (32 + 2 * i5) 0) + (1 : Int32)) M7 (fun r9 M8 => post r9 M8))) ∧ ((M3.1 (32 + 2 * i5) 0) = (2 : Int32) → post (-3 : Int32) M3)))))))
set_option maxHeartbeats 4000000 in
theorem s_Nf_slope {l : Launch} {κ : Kp} {a1 : Int32} {a2 : Int32} {M : Mem} {post : Int32 → Mem → Prop} (hq : q_Nf_slope a1 a2 M post) : Ct l κ y_Nf_slope b_Nf_slope 5 (some .int) 3 [.ref (κ.1 + 0), .int a1, .int a2] M (pI post) := by
  refine Ct_of (by decide) (Nat.le_of_ble_eq_true rfl) (fun γ hγ C R => ?_)
  subst hγ
  unfold q_Nf_slope at hq
  show G γ κ 5 (0, 0) (Gq γ κ (pI post)) 0 [(0, .ref (κ.1 + 0)), (1, .int a1), (2, .int a2)] [] M
  refine G_aload_n C 0 d_Nf_slope_0 rfl rfl ?_
  refine G_iload_n C 1 d_Nf_slope_1 rfl rfl ?_
  refine G_callV C (s_Nf_formAt hq) v_Nf_formAt i_Nf_formAt z_Nf_formAt wd_257 (by decide) rfl (k := 0) (ci := 6) (by decide) rfl rfl rfl (rest := []) (by rfl) (Nat.le_of_ble_eq_true rfl) d_Nf_slope_2 (kf_ (fun r2 M1 hq => ?_))
  refine G_astore_nq C (lv' := [(3, _), (0, _), (1, _), (2, _)]) d_Nf_slope_5 rfl (by decide) rfl ?_
  refine G_aload_n C 1 d_Nf_slope_6 rfl rfl ?_
  refine G_iload_n C 3 d_Nf_slope_7 rfl rfl ?_
  refine G_callV C (s_Nf_formAt hq) v_Nf_formAt i_Nf_formAt z_Nf_formAt wd_257 (by decide) rfl (k := 0) (ci := 6) (by decide) rfl rfl rfl (rest := []) (by rfl) (Nat.le_of_ble_eq_true rfl) d_Nf_slope_8 (kf_ (fun r4 M3 hq => ?_))
  refine G_astoreq2 C (lv' := [(4, _), (3, _), (0, _), (1, _), (2, _)]) d_Nf_slope_11 (by decide) rfl ?_
  refine G_aload_nq C 1 d_Nf_slope_13 rfl rfl ?_
  refine G_ifnullq C (tgt := 22) d_Nf_slope_14 (by decide) (fun c => ?_) (fun i5 c => ?_)
  · replace hq := hq.1 c
    refine G_bipush C (v := -2) d_Nf_slope_22 (by decide) ?_
    exact G_iret C R d_Nf_slope_24 ⟨_, rfl, hq⟩
  · have hz := hq.2 i5 c
    clear hq
    subst c
    obtain ⟨h_i5, hq⟩ := hz
    refine G_aloadq C 0 d_Nf_slope_17 rfl ?_
    refine G_ifnonnullq C (tgt := 25) d_Nf_slope_19 (by decide) (fun i6 c => ?_) (fun c => ?_)
    · have hz := hq.2 i6 c
      clear hq
      subst c
      obtain ⟨h_i6, hq⟩ := hz
      refine G_aload_n C 1 d_Nf_slope_25 rfl rfl ?_
      refine Gg_Frm_degree C h_i5 wd_150 d_Nf_slope_26 ?_
      refine G_iconst C (v := 2) d_Nf_slope_29 (by decide) ?_
      refine G_icmp_ne C (tgt := 36) d_Nf_slope_30 (by decide) (fun c => ?_) (fun c => ?_)
      · replace hq := hq.1 c
        refine G_aload_n C 2 d_Nf_slope_36 rfl rfl ?_
        refine G_aload_n C 1 d_Nf_slope_37 rfl rfl ?_
        refine G_callV C (s_Nf_makeSlope h_i5 hq) v_Nf_makeSlope i_Nf_makeSlope z_Nf_makeSlope wd_278 (by decide) rfl (k := 0) (ci := 6) (by decide) rfl rfl rfl (rest := []) (by rfl) (Nat.le_of_ble_eq_true rfl) d_Nf_slope_38 (kv_ (fun M7 hq => ?_))
        refine G_aload_n C 2 d_Nf_slope_41 rfl rfl ?_
        refine G_aload C 0 d_Nf_slope_42 rfl ?_
        refine G_aload_n C 1 d_Nf_slope_44 rfl rfl ?_
        refine Gg_Frm_degree C h_i5 wd_150 d_Nf_slope_45 ?_
        refine G_iconst C (v := 1) d_Nf_slope_48 (by decide) ?_
        refine G_iadd C d_Nf_slope_49 ?_
        refine G_callV C (s_Nf_giveMade h_i6 hq) v_Nf_giveMade i_Nf_giveMade z_Nf_giveMade wd_287 (by decide) rfl (k := 0) (ci := 6) (by decide) rfl rfl rfl (rest := []) (by rfl) (Nat.le_of_ble_eq_true rfl) d_Nf_slope_50 (ki_ (fun r9 M8 hq => ?_))
        exact G_iret C R d_Nf_slope_53 ⟨_, rfl, hq⟩
      · replace hq := hq.2 c
        refine G_bipush C (v := -3) d_Nf_slope_33 (by decide) ?_
        exact G_iret C R d_Nf_slope_35 ⟨_, rfl, hq⟩
    · replace hq := hq.1 c
      refine G_bipush C (v := -2) d_Nf_slope_22 (by decide) ?_
      exact G_iret C R d_Nf_slope_24 ⟨_, rfl, hq⟩
theorem d_Nf_rim_0 : decode b_Nf_rim 0 = .ok (.aload_n 0, 1) := by decide +kernel
theorem d_Nf_rim_1 : decode b_Nf_rim 1 = .ok (.iload_n 1, 1) := by decide +kernel
theorem d_Nf_rim_2 : decode b_Nf_rim 2 = .ok (.invokevirtual 91, 3) := by decide +kernel
theorem d_Nf_rim_5 : decode b_Nf_rim 5 = .ok (.astore_n 3, 1) := by decide +kernel
theorem d_Nf_rim_6 : decode b_Nf_rim 6 = .ok (.aload_n 0, 1) := by decide +kernel
theorem d_Nf_rim_7 : decode b_Nf_rim 7 = .ok (.iload_n 2, 1) := by decide +kernel
theorem d_Nf_rim_8 : decode b_Nf_rim 8 = .ok (.invokevirtual 91, 3) := by decide +kernel
theorem d_Nf_rim_11 : decode b_Nf_rim 11 = .ok (.astore 4, 2) := by decide +kernel
theorem d_Nf_rim_13 : decode b_Nf_rim 13 = .ok (.aload_n 3, 1) := by decide +kernel
theorem d_Nf_rim_14 : decode b_Nf_rim 14 = .ok (.ifnull 8, 3) := by decide +kernel
theorem d_Nf_rim_17 : decode b_Nf_rim 17 = .ok (.aload 4, 2) := by decide +kernel
theorem d_Nf_rim_19 : decode b_Nf_rim 19 = .ok (.ifnonnull 6, 3) := by decide +kernel
theorem d_Nf_rim_22 : decode b_Nf_rim 22 = .ok (.bipush (-2), 2) := by decide +kernel
theorem d_Nf_rim_24 : decode b_Nf_rim 24 = .ok (.ireturn, 1) := by decide +kernel
theorem d_Nf_rim_25 : decode b_Nf_rim 25 = .ok (.aload_n 3, 1) := by decide +kernel
theorem d_Nf_rim_26 : decode b_Nf_rim 26 = .ok (.getfield 95, 3) := by decide +kernel
theorem d_Nf_rim_29 : decode b_Nf_rim 29 = .ok (.ifCond .ne 6, 3) := by decide +kernel
theorem d_Nf_rim_32 : decode b_Nf_rim 32 = .ok (.bipush (-3), 2) := by decide +kernel
theorem d_Nf_rim_34 : decode b_Nf_rim 34 = .ok (.ireturn, 1) := by decide +kernel
theorem d_Nf_rim_35 : decode b_Nf_rim 35 = .ok (.aload_n 0, 1) := by decide +kernel
theorem d_Nf_rim_36 : decode b_Nf_rim 36 = .ok (.aload_n 3, 1) := by decide +kernel
theorem d_Nf_rim_37 : decode b_Nf_rim 37 = .ok (.invokevirtual 116, 3) := by decide +kernel
theorem d_Nf_rim_40 : decode b_Nf_rim 40 = .ok (.aload_n 0, 1) := by decide +kernel
theorem d_Nf_rim_41 : decode b_Nf_rim 41 = .ok (.aload 4, 2) := by decide +kernel
theorem d_Nf_rim_43 : decode b_Nf_rim 43 = .ok (.aload_n 3, 1) := by decide +kernel
theorem d_Nf_rim_44 : decode b_Nf_rim 44 = .ok (.getfield 95, 3) := by decide +kernel
theorem d_Nf_rim_47 : decode b_Nf_rim 47 = .ok (.iconst 1, 1) := by decide +kernel
theorem d_Nf_rim_48 : decode b_Nf_rim 48 = .ok (.isub, 1) := by decide +kernel
theorem d_Nf_rim_49 : decode b_Nf_rim 49 = .ok (.invokevirtual 112, 3) := by decide +kernel
theorem d_Nf_rim_52 : decode b_Nf_rim 52 = .ok (.ireturn, 1) := by decide +kernel
def q_Nf_rim (a1 : Int32) (a2 : Int32) (M : Mem) (post : Int32 → Mem → Prop) : Prop := q_Nf_formAt a1 M (fun r2 M1 => q_Nf_formAt a2 M1 (fun r4 M3 => (r2 = none → post (-2 : Int32) M3) ∧ (∀ i5, r2 = some i5 → i5 < 12 ∧ ((r4 = none → post (-2 : Int32) M3) ∧ (∀ i6, r4 = some i6 → i6 < 12 ∧ ((¬ (M3.1 (32 + 2 * i5) 0) = 0 → q_Nf_makeRim i5 M3 (fun M7 => q_Nf_giveMade i6 ((M7.1 (32 + 2 * i5) 0) - (1 : Int32)) M7 (fun r9 M8 => post r9 M8))) ∧ ((M3.1 (32 + 2 * i5) 0) = 0 → post (-3 : Int32) M3)))))))
set_option maxHeartbeats 4000000 in
theorem s_Nf_rim {l : Launch} {κ : Kp} {a1 : Int32} {a2 : Int32} {M : Mem} {post : Int32 → Mem → Prop} (hq : q_Nf_rim a1 a2 M post) : Ct l κ y_Nf_rim b_Nf_rim 5 (some .int) 3 [.ref (κ.1 + 0), .int a1, .int a2] M (pI post) := by
  refine Ct_of (by decide) (Nat.le_of_ble_eq_true rfl) (fun γ hγ C R => ?_)
  subst hγ
  unfold q_Nf_rim at hq
  show G γ κ 5 (0, 0) (Gq γ κ (pI post)) 0 [(0, .ref (κ.1 + 0)), (1, .int a1), (2, .int a2)] [] M
  refine G_aload_n C 0 d_Nf_rim_0 rfl rfl ?_
  refine G_iload_n C 1 d_Nf_rim_1 rfl rfl ?_
  refine G_callV C (s_Nf_formAt hq) v_Nf_formAt i_Nf_formAt z_Nf_formAt wd_257 (by decide) rfl (k := 0) (ci := 6) (by decide) rfl rfl rfl (rest := []) (by rfl) (Nat.le_of_ble_eq_true rfl) d_Nf_rim_2 (kf_ (fun r2 M1 hq => ?_))
  refine G_astore_nq C (lv' := [(3, _), (0, _), (1, _), (2, _)]) d_Nf_rim_5 rfl (by decide) rfl ?_
  refine G_aload_n C 1 d_Nf_rim_6 rfl rfl ?_
  refine G_iload_n C 3 d_Nf_rim_7 rfl rfl ?_
  refine G_callV C (s_Nf_formAt hq) v_Nf_formAt i_Nf_formAt z_Nf_formAt wd_257 (by decide) rfl (k := 0) (ci := 6) (by decide) rfl rfl rfl (rest := []) (by rfl) (Nat.le_of_ble_eq_true rfl) d_Nf_rim_8 (kf_ (fun r4 M3 hq => ?_))
  refine G_astoreq2 C (lv' := [(4, _), (3, _), (0, _), (1, _), (2, _)]) d_Nf_rim_11 (by decide) rfl ?_
  refine G_aload_nq C 1 d_Nf_rim_13 rfl rfl ?_
  refine G_ifnullq C (tgt := 22) d_Nf_rim_14 (by decide) (fun c => ?_) (fun i5 c => ?_)
  · replace hq := hq.1 c
    refine G_bipush C (v := -2) d_Nf_rim_22 (by decide) ?_
    exact G_iret C R d_Nf_rim_24 ⟨_, rfl, hq⟩
  · have hz := hq.2 i5 c
    clear hq
    subst c
    obtain ⟨h_i5, hq⟩ := hz
    refine G_aloadq C 0 d_Nf_rim_17 rfl ?_
    refine G_ifnonnullq C (tgt := 25) d_Nf_rim_19 (by decide) (fun i6 c => ?_) (fun c => ?_)
    · have hz := hq.2 i6 c
      clear hq
      subst c
      obtain ⟨h_i6, hq⟩ := hz
      refine G_aload_n C 1 d_Nf_rim_25 rfl rfl ?_
      refine Gg_Frm_degree C h_i5 wd_150 d_Nf_rim_26 ?_
      refine G_if_ne C (tgt := 35) d_Nf_rim_29 (by decide) (fun c => ?_) (fun c => ?_)
      · replace hq := hq.1 c
        refine G_aload_n C 2 d_Nf_rim_35 rfl rfl ?_
        refine G_aload_n C 1 d_Nf_rim_36 rfl rfl ?_
        refine G_callV C (s_Nf_makeRim h_i5 hq) v_Nf_makeRim i_Nf_makeRim z_Nf_makeRim wd_295 (by decide) rfl (k := 0) (ci := 6) (by decide) rfl rfl rfl (rest := []) (by rfl) (Nat.le_of_ble_eq_true rfl) d_Nf_rim_37 (kv_ (fun M7 hq => ?_))
        refine G_aload_n C 2 d_Nf_rim_40 rfl rfl ?_
        refine G_aload C 0 d_Nf_rim_41 rfl ?_
        refine G_aload_n C 1 d_Nf_rim_43 rfl rfl ?_
        refine Gg_Frm_degree C h_i5 wd_150 d_Nf_rim_44 ?_
        refine G_iconst C (v := 1) d_Nf_rim_47 (by decide) ?_
        refine G_isub C d_Nf_rim_48 ?_
        refine G_callV C (s_Nf_giveMade h_i6 hq) v_Nf_giveMade i_Nf_giveMade z_Nf_giveMade wd_287 (by decide) rfl (k := 0) (ci := 6) (by decide) rfl rfl rfl (rest := []) (by rfl) (Nat.le_of_ble_eq_true rfl) d_Nf_rim_49 (ki_ (fun r9 M8 hq => ?_))
        exact G_iret C R d_Nf_rim_52 ⟨_, rfl, hq⟩
      · replace hq := hq.2 c
        refine G_bipush C (v := -3) d_Nf_rim_32 (by decide) ?_
        exact G_iret C R d_Nf_rim_34 ⟨_, rfl, hq⟩
    · replace hq := hq.1 c
      refine G_bipush C (v := -2) d_Nf_rim_22 (by decide) ?_
      exact G_iret C R d_Nf_rim_24 ⟨_, rfl, hq⟩
theorem d_Nf_cup_0 : decode b_Nf_cup 0 = .ok (.aload_n 0, 1) := by decide +kernel
theorem d_Nf_cup_1 : decode b_Nf_cup 1 = .ok (.iload_n 1, 1) := by decide +kernel
theorem d_Nf_cup_2 : decode b_Nf_cup 2 = .ok (.invokevirtual 91, 3) := by decide +kernel
theorem d_Nf_cup_5 : decode b_Nf_cup 5 = .ok (.astore 4, 2) := by decide +kernel
theorem d_Nf_cup_7 : decode b_Nf_cup 7 = .ok (.aload_n 0, 1) := by decide +kernel
theorem d_Nf_cup_8 : decode b_Nf_cup 8 = .ok (.iload_n 2, 1) := by decide +kernel
theorem d_Nf_cup_9 : decode b_Nf_cup 9 = .ok (.invokevirtual 91, 3) := by decide +kernel
theorem d_Nf_cup_12 : decode b_Nf_cup 12 = .ok (.astore 5, 2) := by decide +kernel
theorem d_Nf_cup_14 : decode b_Nf_cup 14 = .ok (.aload_n 0, 1) := by decide +kernel
theorem d_Nf_cup_15 : decode b_Nf_cup 15 = .ok (.iload_n 3, 1) := by decide +kernel
theorem d_Nf_cup_16 : decode b_Nf_cup 16 = .ok (.invokevirtual 91, 3) := by decide +kernel
theorem d_Nf_cup_19 : decode b_Nf_cup 19 = .ok (.astore 6, 2) := by decide +kernel
theorem d_Nf_cup_21 : decode b_Nf_cup 21 = .ok (.aload 4, 2) := by decide +kernel
theorem d_Nf_cup_23 : decode b_Nf_cup 23 = .ok (.ifnull 13, 3) := by decide +kernel
theorem d_Nf_cup_26 : decode b_Nf_cup 26 = .ok (.aload 5, 2) := by decide +kernel
theorem d_Nf_cup_28 : decode b_Nf_cup 28 = .ok (.ifnull 8, 3) := by decide +kernel
theorem d_Nf_cup_31 : decode b_Nf_cup 31 = .ok (.aload 6, 2) := by decide +kernel
theorem d_Nf_cup_33 : decode b_Nf_cup 33 = .ok (.ifnonnull 6, 3) := by decide +kernel
theorem d_Nf_cup_36 : decode b_Nf_cup 36 = .ok (.bipush (-2), 2) := by decide +kernel
theorem d_Nf_cup_38 : decode b_Nf_cup 38 = .ok (.ireturn, 1) := by decide +kernel
theorem d_Nf_cup_39 : decode b_Nf_cup 39 = .ok (.aload 4, 2) := by decide +kernel
theorem d_Nf_cup_41 : decode b_Nf_cup 41 = .ok (.getfield 95, 3) := by decide +kernel
theorem d_Nf_cup_44 : decode b_Nf_cup 44 = .ok (.aload 5, 2) := by decide +kernel
theorem d_Nf_cup_46 : decode b_Nf_cup 46 = .ok (.getfield 95, 3) := by decide +kernel
theorem d_Nf_cup_49 : decode b_Nf_cup 49 = .ok (.iadd, 1) := by decide +kernel
theorem d_Nf_cup_50 : decode b_Nf_cup 50 = .ok (.istore 7, 2) := by decide +kernel
theorem d_Nf_cup_52 : decode b_Nf_cup 52 = .ok (.iload 7, 2) := by decide +kernel
theorem d_Nf_cup_54 : decode b_Nf_cup 54 = .ok (.iconst 2, 1) := by decide +kernel
theorem d_Nf_cup_55 : decode b_Nf_cup 55 = .ok (.if_icmp .le 6, 3) := by decide +kernel
theorem d_Nf_cup_58 : decode b_Nf_cup 58 = .ok (.bipush (-3), 2) := by decide +kernel
theorem d_Nf_cup_60 : decode b_Nf_cup 60 = .ok (.ireturn, 1) := by decide +kernel
theorem d_Nf_cup_61 : decode b_Nf_cup 61 = .ok (.iconst 0, 1) := by decide +kernel
theorem d_Nf_cup_62 : decode b_Nf_cup 62 = .ok (.istore 8, 2) := by decide +kernel
theorem d_Nf_cup_64 : decode b_Nf_cup 64 = .ok (.iload 8, 2) := by decide +kernel
theorem d_Nf_cup_66 : decode b_Nf_cup 66 = .ok (.aload_n 0, 1) := by decide +kernel
theorem d_Nf_cup_67 : decode b_Nf_cup 67 = .ok (.getfield 10, 3) := by decide +kernel
theorem d_Nf_cup_70 : decode b_Nf_cup 70 = .ok (.iload 7, 2) := by decide +kernel
theorem d_Nf_cup_72 : decode b_Nf_cup 72 = .ok (.invokevirtual 119, 3) := by decide +kernel
theorem d_Nf_cup_75 : decode b_Nf_cup 75 = .ok (.if_icmp .ge 67, 3) := by decide +kernel
theorem d_Nf_cup_78 : decode b_Nf_cup 78 = .ok (.aload 4, 2) := by decide +kernel
theorem d_Nf_cup_80 : decode b_Nf_cup 80 = .ok (.getfield 104, 3) := by decide +kernel
theorem d_Nf_cup_83 : decode b_Nf_cup 83 = .ok (.aload_n 0, 1) := by decide +kernel
theorem d_Nf_cup_84 : decode b_Nf_cup 84 = .ok (.getfield 10, 3) := by decide +kernel
theorem d_Nf_cup_87 : decode b_Nf_cup 87 = .ok (.iload 7, 2) := by decide +kernel
theorem d_Nf_cup_89 : decode b_Nf_cup 89 = .ok (.iload 8, 2) := by decide +kernel
theorem d_Nf_cup_91 : decode b_Nf_cup 91 = .ok (.aload 4, 2) := by decide +kernel
theorem d_Nf_cup_93 : decode b_Nf_cup 93 = .ok (.getfield 95, 3) := by decide +kernel
theorem d_Nf_cup_96 : decode b_Nf_cup 96 = .ok (.invokevirtual 123, 3) := by decide +kernel
theorem d_Nf_cup_99 : decode b_Nf_cup 99 = .ok (.iaload, 1) := by decide +kernel
theorem d_Nf_cup_100 : decode b_Nf_cup 100 = .ok (.i2l, 1) := by decide +kernel
theorem d_Nf_cup_101 : decode b_Nf_cup 101 = .ok (.lstore 9, 2) := by decide +kernel
theorem d_Nf_cup_103 : decode b_Nf_cup 103 = .ok (.aload_n 0, 1) := by decide +kernel
theorem d_Nf_cup_104 : decode b_Nf_cup 104 = .ok (.getfield 50, 3) := by decide +kernel
theorem d_Nf_cup_107 : decode b_Nf_cup 107 = .ok (.iload 8, 2) := by decide +kernel
theorem d_Nf_cup_109 : decode b_Nf_cup 109 = .ok (.lload 9, 2) := by decide +kernel
theorem d_Nf_cup_111 : decode b_Nf_cup 111 = .ok (.aload 5, 2) := by decide +kernel
theorem d_Nf_cup_113 : decode b_Nf_cup 113 = .ok (.getfield 104, 3) := by decide +kernel
theorem d_Nf_cup_116 : decode b_Nf_cup 116 = .ok (.aload_n 0, 1) := by decide +kernel
theorem d_Nf_cup_117 : decode b_Nf_cup 117 = .ok (.getfield 10, 3) := by decide +kernel
theorem d_Nf_cup_120 : decode b_Nf_cup 120 = .ok (.iload 7, 2) := by decide +kernel
theorem d_Nf_cup_122 : decode b_Nf_cup 122 = .ok (.iload 8, 2) := by decide +kernel
theorem d_Nf_cup_124 : decode b_Nf_cup 124 = .ok (.aload 5, 2) := by decide +kernel
theorem d_Nf_cup_126 : decode b_Nf_cup 126 = .ok (.getfield 95, 3) := by decide +kernel
theorem d_Nf_cup_129 : decode b_Nf_cup 129 = .ok (.invokevirtual 126, 3) := by decide +kernel
theorem d_Nf_cup_132 : decode b_Nf_cup 132 = .ok (.iaload, 1) := by decide +kernel
theorem d_Nf_cup_133 : decode b_Nf_cup 133 = .ok (.i2l, 1) := by decide +kernel
theorem d_Nf_cup_134 : decode b_Nf_cup 134 = .ok (.lmul, 1) := by decide +kernel
theorem d_Nf_cup_135 : decode b_Nf_cup 135 = .ok (.lastore, 1) := by decide +kernel
theorem d_Nf_cup_136 : decode b_Nf_cup 136 = .ok (.iinc 8 1, 3) := by decide +kernel
theorem d_Nf_cup_139 : decode b_Nf_cup 139 = .ok (.goto (-75), 3) := by decide +kernel
theorem d_Nf_cup_142 : decode b_Nf_cup 142 = .ok (.aload_n 0, 1) := by decide +kernel
theorem d_Nf_cup_143 : decode b_Nf_cup 143 = .ok (.aload 6, 2) := by decide +kernel
theorem d_Nf_cup_145 : decode b_Nf_cup 145 = .ok (.iload 7, 2) := by decide +kernel
theorem d_Nf_cup_147 : decode b_Nf_cup 147 = .ok (.invokevirtual 112, 3) := by decide +kernel
theorem d_Nf_cup_150 : decode b_Nf_cup 150 = .ok (.ireturn, 1) := by decide +kernel
def q_Nf_cup_L64 (g4 : Nat) (g5 : Nat) (g6 : Nat) (kx142 : Int32 → Mem → Prop) (post : Int32 → Mem → Prop) : Nat → Int32 → Int32 → Mem → Prop
  | 0, _, _, _ => False
  | n + 1, x7, x8, M => q_Net_size x7 M (fun r11 M10 => (r11 ≤ x8 → kx142 x7 M10) ∧ (¬ r11 ≤ x8 → q_Net_frontOf x7 x8 (M10.1 (32 + 2 * g4) 0) M10 (fun r13 M12 => vp_in r13 12 ∧ (q_Net_backOf x7 x8 (M12.1 (32 + 2 * g5) 0) M12 (fun r15 M14 => vp_in r15 12 ∧ (vp_in x8 12 ∧ (∀ M16, M16 = wJ M14 31 x8.toNatClampNeg (((M12.1 (33 + 2 * g4) r13.toNatClampNeg).toInt64) * ((M14.1 (33 + 2 * g5) r15.toNatClampNeg).toInt64)) → q_Nf_cup_L64 g4 g5 g6 kx142 post n x7 (x8 + 1) M16)))))))
set_option maxHeartbeats 4000000 in
theorem s_Nf_cup_L64 {γ : Gm} {κ : Kp} {post : Int32 → Mem → Prop} {g4 : Nat} {g5 : Nat} {g6 : Nat} {kx142 : Int32 → Mem → Prop} (C : Cx γ κ "NetForms" b_Nf_cup 11 3 (0, 0)) (R : Rt γ (some .int)) (h_g4 : g4 < 12) (h_g5 : g5 < 12) (h_g6 : g6 < 12) (hx142 : ∀ y2 M', kx142 y2 M' → G γ κ 11 (0, 0) (Gq γ κ (pI post)) 142 [(0, .ref (κ.1 + 0)), (6, .ref (κ.1 + (32 + 2 * g6))), (7, .int y2)] [] M') : ∀ (n : Nat) (x7 : Int32) (x8 : Int32) (M : Mem), q_Nf_cup_L64 g4 g5 g6 kx142 post n x7 x8 M → G γ κ 11 (0, 0) (Gq γ κ (pI post)) 64 [(0, .ref (κ.1 + 0)), (4, .ref (κ.1 + (32 + 2 * g4))), (5, .ref (κ.1 + (32 + 2 * g5))), (6, .ref (κ.1 + (32 + 2 * g6))), (7, .int x7), (8, .int x8)] [] M := by
  intro n
  induction n with
  | zero => intro x7 x8 M hq; exact hq.elim
  | succ n ih =>
    intro x7 x8 M hq
    unfold q_Nf_cup_L64 at hq
    refine G_iload C 5 d_Nf_cup_64 rfl ?_
    refine G_aload_n C 0 d_Nf_cup_66 rfl rfl ?_
    refine Gg_Nf_shape C wd_163 d_Nf_cup_67 ?_
    refine G_iload C 4 d_Nf_cup_70 rfl ?_
    refine G_callV C (s_Net_size hq) v_Net_size i_Net_size z_Net_size wd_282 (by decide) rfl (k := 1) (ci := 3) (by decide) rfl rfl rfl (rest := [_]) (by rfl) (Nat.le_of_ble_eq_true rfl) d_Nf_cup_72 (ki_ (fun r11 M10 hq => ?_))
    refine G_icmp_ge C (tgt := 142) d_Nf_cup_75 (by decide) (fun c => ?_) (fun c => ?_)
    · replace hq := hq.1 c
      exact G_sub [0, 3, 4] (by rfl) (hx142 _ _ hq)
    · replace hq := hq.2 c
      refine G_aload C 1 d_Nf_cup_78 rfl ?_
      refine Gg_Frm_numbers C h_g4 wd_153 d_Nf_cup_80 ?_
      refine G_aload_n C 0 d_Nf_cup_83 rfl rfl ?_
      refine Gg_Nf_shape C wd_163 d_Nf_cup_84 ?_
      refine G_iload C 4 d_Nf_cup_87 rfl ?_
      refine G_iload C 5 d_Nf_cup_89 rfl ?_
      refine G_aload C 1 d_Nf_cup_91 rfl ?_
      refine Gg_Frm_degree C h_g4 wd_150 d_Nf_cup_93 ?_
      refine G_callV C (s_Net_frontOf hq) v_Net_frontOf i_Net_frontOf z_Net_frontOf wd_303 (by decide) rfl (k := 1) (ci := 3) (by decide) rfl rfl rfl (rest := [_]) (by rfl) (Nat.le_of_ble_eq_true rfl) d_Nf_cup_96 (ki_ (fun r13 M12 hq => ?_))
      refine G_iaload C (by have := h_g4; omega) (sh_formA κ h_g4) hq.1 d_Nf_cup_99 ?_
      replace hq := hq.2
      refine G_i2l C d_Nf_cup_100 ?_
      refine G_lstore C (lv' := [(9, _), (0, _), (4, _), (5, _), (6, _), (7, _), (8, _)]) d_Nf_cup_101 (by decide) rfl ?_
      refine G_aload_n C 1 d_Nf_cup_103 rfl rfl ?_
      refine Gg_Nf_made C wd_169 d_Nf_cup_104 ?_
      refine G_iload C 6 d_Nf_cup_107 rfl ?_
      refine G_lload C 0 d_Nf_cup_109 rfl ?_
      refine G_aload C 3 d_Nf_cup_111 rfl ?_
      refine Gg_Frm_numbers C h_g5 wd_153 d_Nf_cup_113 ?_
      refine G_aload_n C 1 d_Nf_cup_116 rfl rfl ?_
      refine Gg_Nf_shape C wd_163 d_Nf_cup_117 ?_
      refine G_iload C 5 d_Nf_cup_120 rfl ?_
      refine G_iload C 6 d_Nf_cup_122 rfl ?_
      refine G_aload C 3 d_Nf_cup_124 rfl ?_
      refine Gg_Frm_degree C h_g5 wd_150 d_Nf_cup_126 ?_
      refine G_callV C (s_Net_backOf hq) v_Net_backOf i_Net_backOf z_Net_backOf wd_308 (by decide) rfl (k := 1) (ci := 3) (by decide) rfl rfl rfl (rest := [_, _, _, _]) (by rfl) (Nat.le_of_ble_eq_true rfl) d_Nf_cup_129 (ki_ (fun r15 M14 hq => ?_))
      refine G_iaload C (by have := h_g5; omega) (sh_formA κ h_g5) hq.1 d_Nf_cup_132 ?_
      replace hq := hq.2
      refine G_i2l C d_Nf_cup_133 ?_
      refine G_lmul C d_Nf_cup_134 ?_
      refine G_lastore C (k := 31) (by decide) (fun _ _ => rfl) hq.1 d_Nf_cup_135 ?_
      replace hq := hq.2 _ rfl
      refine G_iinc C (v := _ + 1) (lv' := [(8, _), (9, _), (0, _), (4, _), (5, _), (6, _), (7, _)]) 6 d_Nf_cup_136 rfl rfl (by decide) rfl ?_
      refine G_goto C (tgt := 64) d_Nf_cup_139 (by decide) ?_
      exact G_sub [2, 3, 4, 5, 6, 0] (by rfl) (ih _ _ _ hq)
def q_Nf_cup (a1 : Int32) (a2 : Int32) (a3 : Int32) (M : Mem) (post : Int32 → Mem → Prop) : Prop := q_Nf_formAt a1 M (fun r2 M1 => q_Nf_formAt a2 M1 (fun r4 M3 => q_Nf_formAt a3 M3 (fun r6 M5 => (r2 = none → post (-2 : Int32) M5) ∧ (∀ i7, r2 = some i7 → i7 < 12 ∧ ((r4 = none → post (-2 : Int32) M5) ∧ (∀ i8, r4 = some i8 → i8 < 12 ∧ ((r6 = none → post (-2 : Int32) M5) ∧ (∀ i9, r6 = some i9 → i9 < 12 ∧ ((((M5.1 (32 + 2 * i7) 0) + (M5.1 (32 + 2 * i8) 0)) ≤ (2 : Int32) → ∃ n17, q_Nf_cup_L64 i7 i8 i9 (fun x18 M19 => q_Nf_giveMade i9 x18 M19 (fun r21 M20 => post r21 M20)) post n17 ((M5.1 (32 + 2 * i7) 0) + (M5.1 (32 + 2 * i8) 0)) (0 : Int32) M5) ∧ (¬ ((M5.1 (32 + 2 * i7) 0) + (M5.1 (32 + 2 * i8) 0)) ≤ (2 : Int32) → post (-3 : Int32) M5))))))))))
set_option maxHeartbeats 4000000 in
theorem s_Nf_cup {l : Launch} {κ : Kp} {a1 : Int32} {a2 : Int32} {a3 : Int32} {M : Mem} {post : Int32 → Mem → Prop} (hq : q_Nf_cup a1 a2 a3 M post) : Ct l κ y_Nf_cup b_Nf_cup 11 (some .int) 3 [.ref (κ.1 + 0), .int a1, .int a2, .int a3] M (pI post) := by
  refine Ct_of (by decide) (Nat.le_of_ble_eq_true rfl) (fun γ hγ C R => ?_)
  subst hγ
  unfold q_Nf_cup at hq
  show G γ κ 11 (0, 0) (Gq γ κ (pI post)) 0 [(0, .ref (κ.1 + 0)), (1, .int a1), (2, .int a2), (3, .int a3)] [] M
  refine G_aload_n C 0 d_Nf_cup_0 rfl rfl ?_
  refine G_iload_n C 1 d_Nf_cup_1 rfl rfl ?_
  refine G_callV C (s_Nf_formAt hq) v_Nf_formAt i_Nf_formAt z_Nf_formAt wd_257 (by decide) rfl (k := 0) (ci := 6) (by decide) rfl rfl rfl (rest := []) (by rfl) (Nat.le_of_ble_eq_true rfl) d_Nf_cup_2 (kf_ (fun r2 M1 hq => ?_))
  refine G_astoreq C (lv' := [(4, _), (0, _), (1, _), (2, _), (3, _)]) d_Nf_cup_5 (by decide) rfl ?_
  refine G_aload_n C 1 d_Nf_cup_7 rfl rfl ?_
  refine G_iload_n C 3 d_Nf_cup_8 rfl rfl ?_
  refine G_callV C (s_Nf_formAt hq) v_Nf_formAt i_Nf_formAt z_Nf_formAt wd_257 (by decide) rfl (k := 0) (ci := 6) (by decide) rfl rfl rfl (rest := []) (by rfl) (Nat.le_of_ble_eq_true rfl) d_Nf_cup_9 (kf_ (fun r4 M3 hq => ?_))
  refine G_astoreq2 C (lv' := [(5, _), (4, _), (0, _), (1, _), (2, _), (3, _)]) d_Nf_cup_12 (by decide) rfl ?_
  refine G_aload_n C 2 d_Nf_cup_14 rfl rfl ?_
  refine G_iload_n C 5 d_Nf_cup_15 rfl rfl ?_
  refine G_callV C (s_Nf_formAt hq) v_Nf_formAt i_Nf_formAt z_Nf_formAt wd_257 (by decide) rfl (k := 0) (ci := 6) (by decide) rfl rfl rfl (rest := []) (by rfl) (Nat.le_of_ble_eq_true rfl) d_Nf_cup_16 (kf_ (fun r6 M5 hq => ?_))
  refine G_astoreq2 C (lv' := [(6, _), (5, _), (4, _), (0, _), (1, _), (2, _), (3, _)]) d_Nf_cup_19 (by decide) rfl ?_
  refine G_aloadq C 2 d_Nf_cup_21 rfl ?_
  refine G_ifnullq C (tgt := 36) d_Nf_cup_23 (by decide) (fun c => ?_) (fun i7 c => ?_)
  · replace hq := hq.1 c
    refine G_bipush C (v := -2) d_Nf_cup_36 (by decide) ?_
    exact G_iret C R d_Nf_cup_38 ⟨_, rfl, hq⟩
  · have hz := hq.2 i7 c
    clear hq
    subst c
    obtain ⟨h_i7, hq⟩ := hz
    refine G_aloadq C 1 d_Nf_cup_26 rfl ?_
    refine G_ifnullq C (tgt := 36) d_Nf_cup_28 (by decide) (fun c => ?_) (fun i8 c => ?_)
    · replace hq := hq.1 c
      refine G_bipush C (v := -2) d_Nf_cup_36 (by decide) ?_
      exact G_iret C R d_Nf_cup_38 ⟨_, rfl, hq⟩
    · have hz := hq.2 i8 c
      clear hq
      subst c
      obtain ⟨h_i8, hq⟩ := hz
      refine G_aloadq C 0 d_Nf_cup_31 rfl ?_
      refine G_ifnonnullq C (tgt := 39) d_Nf_cup_33 (by decide) (fun i9 c => ?_) (fun c => ?_)
      · have hz := hq.2 i9 c
        clear hq
        subst c
        obtain ⟨h_i9, hq⟩ := hz
        refine G_aload C 2 d_Nf_cup_39 rfl ?_
        refine Gg_Frm_degree C h_i7 wd_150 d_Nf_cup_41 ?_
        refine G_aload C 1 d_Nf_cup_44 rfl ?_
        refine Gg_Frm_degree C h_i8 wd_150 d_Nf_cup_46 ?_
        refine G_iadd C d_Nf_cup_49 ?_
        refine G_istore C (lv' := [(7, _), (6, _), (5, _), (4, _), (0, _), (1, _), (2, _), (3, _)]) d_Nf_cup_50 (by decide) rfl ?_
        refine G_iload C 0 d_Nf_cup_52 rfl ?_
        refine G_iconst C (v := 2) d_Nf_cup_54 (by decide) ?_
        refine G_icmp_le C (tgt := 61) d_Nf_cup_55 (by decide) (fun c => ?_) (fun c => ?_)
        · replace hq := hq.1 c
          refine G_iconst C (v := 0) d_Nf_cup_61 (by decide) ?_
          refine G_istore C (lv' := [(8, _), (7, _), (6, _), (5, _), (4, _), (0, _), (1, _), (2, _), (3, _)]) d_Nf_cup_62 (by decide) rfl ?_
          obtain ⟨n17, hq⟩ := hq
          refine G_sub [5, 4, 3, 2, 1, 0] (by rfl) (s_Nf_cup_L64 C R h_i7 h_i8 h_i9 ?_ n17 _ _ _ hq)
          · intro x18 M19 hq
            refine G_aload_n C 0 d_Nf_cup_142 rfl rfl ?_
            refine G_aload C 1 d_Nf_cup_143 rfl ?_
            refine G_iload C 2 d_Nf_cup_145 rfl ?_
            refine G_callV C (s_Nf_giveMade h_i9 hq) v_Nf_giveMade i_Nf_giveMade z_Nf_giveMade wd_287 (by decide) rfl (k := 0) (ci := 6) (by decide) rfl rfl rfl (rest := []) (by rfl) (Nat.le_of_ble_eq_true rfl) d_Nf_cup_147 (ki_ (fun r21 M20 hq => ?_))
            exact G_iret C R d_Nf_cup_150 ⟨_, rfl, hq⟩
        · replace hq := hq.2 c
          refine G_bipush C (v := -3) d_Nf_cup_58 (by decide) ?_
          exact G_iret C R d_Nf_cup_60 ⟨_, rfl, hq⟩
      · replace hq := hq.1 c
        refine G_bipush C (v := -2) d_Nf_cup_36 (by decide) ?_
        exact G_iret C R d_Nf_cup_38 ⟨_, rfl, hq⟩
theorem d_Nf_mix_0 : decode b_Nf_mix 0 = .ok (.aload_n 0, 1) := by decide +kernel
theorem d_Nf_mix_1 : decode b_Nf_mix 1 = .ok (.iload_n 1, 1) := by decide +kernel
theorem d_Nf_mix_2 : decode b_Nf_mix 2 = .ok (.invokevirtual 91, 3) := by decide +kernel
theorem d_Nf_mix_5 : decode b_Nf_mix 5 = .ok (.astore 6, 2) := by decide +kernel
theorem d_Nf_mix_7 : decode b_Nf_mix 7 = .ok (.aload_n 0, 1) := by decide +kernel
theorem d_Nf_mix_8 : decode b_Nf_mix 8 = .ok (.iload_n 3, 1) := by decide +kernel
theorem d_Nf_mix_9 : decode b_Nf_mix 9 = .ok (.invokevirtual 91, 3) := by decide +kernel
theorem d_Nf_mix_12 : decode b_Nf_mix 12 = .ok (.astore 7, 2) := by decide +kernel
theorem d_Nf_mix_14 : decode b_Nf_mix 14 = .ok (.aload_n 0, 1) := by decide +kernel
theorem d_Nf_mix_15 : decode b_Nf_mix 15 = .ok (.iload 5, 2) := by decide +kernel
theorem d_Nf_mix_17 : decode b_Nf_mix 17 = .ok (.invokevirtual 91, 3) := by decide +kernel
theorem d_Nf_mix_20 : decode b_Nf_mix 20 = .ok (.astore 8, 2) := by decide +kernel
theorem d_Nf_mix_22 : decode b_Nf_mix 22 = .ok (.aload 6, 2) := by decide +kernel
theorem d_Nf_mix_24 : decode b_Nf_mix 24 = .ok (.ifnull 13, 3) := by decide +kernel
theorem d_Nf_mix_27 : decode b_Nf_mix 27 = .ok (.aload 7, 2) := by decide +kernel
theorem d_Nf_mix_29 : decode b_Nf_mix 29 = .ok (.ifnull 8, 3) := by decide +kernel
theorem d_Nf_mix_32 : decode b_Nf_mix 32 = .ok (.aload 8, 2) := by decide +kernel
theorem d_Nf_mix_34 : decode b_Nf_mix 34 = .ok (.ifnonnull 6, 3) := by decide +kernel
theorem d_Nf_mix_37 : decode b_Nf_mix 37 = .ok (.bipush (-2), 2) := by decide +kernel
theorem d_Nf_mix_39 : decode b_Nf_mix 39 = .ok (.ireturn, 1) := by decide +kernel
theorem d_Nf_mix_40 : decode b_Nf_mix 40 = .ok (.iload_n 2, 1) := by decide +kernel
theorem d_Nf_mix_41 : decode b_Nf_mix 41 = .ok (.i2l, 1) := by decide +kernel
theorem d_Nf_mix_42 : decode b_Nf_mix 42 = .ok (.sipush 1000, 3) := by decide +kernel
theorem d_Nf_mix_45 : decode b_Nf_mix 45 = .ok (.invokestatic 99, 3) := by decide +kernel
theorem d_Nf_mix_48 : decode b_Nf_mix 48 = .ok (.ifCond .eq 15, 3) := by decide +kernel
theorem d_Nf_mix_51 : decode b_Nf_mix 51 = .ok (.iload 4, 2) := by decide +kernel
theorem d_Nf_mix_53 : decode b_Nf_mix 53 = .ok (.i2l, 1) := by decide +kernel
theorem d_Nf_mix_54 : decode b_Nf_mix 54 = .ok (.sipush 1000, 3) := by decide +kernel
theorem d_Nf_mix_57 : decode b_Nf_mix 57 = .ok (.invokestatic 99, 3) := by decide +kernel
theorem d_Nf_mix_60 : decode b_Nf_mix 60 = .ok (.ifCond .ne 6, 3) := by decide +kernel
theorem d_Nf_mix_63 : decode b_Nf_mix 63 = .ok (.bipush (-2), 2) := by decide +kernel
theorem d_Nf_mix_65 : decode b_Nf_mix 65 = .ok (.ireturn, 1) := by decide +kernel
theorem d_Nf_mix_66 : decode b_Nf_mix 66 = .ok (.aload 6, 2) := by decide +kernel
theorem d_Nf_mix_68 : decode b_Nf_mix 68 = .ok (.getfield 95, 3) := by decide +kernel
theorem d_Nf_mix_71 : decode b_Nf_mix 71 = .ok (.aload 7, 2) := by decide +kernel
theorem d_Nf_mix_73 : decode b_Nf_mix 73 = .ok (.getfield 95, 3) := by decide +kernel
theorem d_Nf_mix_76 : decode b_Nf_mix 76 = .ok (.if_icmp .eq 6, 3) := by decide +kernel
theorem d_Nf_mix_79 : decode b_Nf_mix 79 = .ok (.bipush (-3), 2) := by decide +kernel
theorem d_Nf_mix_81 : decode b_Nf_mix 81 = .ok (.ireturn, 1) := by decide +kernel
theorem d_Nf_mix_82 : decode b_Nf_mix 82 = .ok (.iconst 0, 1) := by decide +kernel
theorem d_Nf_mix_83 : decode b_Nf_mix 83 = .ok (.istore 9, 2) := by decide +kernel
theorem d_Nf_mix_85 : decode b_Nf_mix 85 = .ok (.iload 9, 2) := by decide +kernel
theorem d_Nf_mix_87 : decode b_Nf_mix 87 = .ok (.aload_n 0, 1) := by decide +kernel
theorem d_Nf_mix_88 : decode b_Nf_mix 88 = .ok (.getfield 10, 3) := by decide +kernel
theorem d_Nf_mix_91 : decode b_Nf_mix 91 = .ok (.aload 6, 2) := by decide +kernel
theorem d_Nf_mix_93 : decode b_Nf_mix 93 = .ok (.getfield 95, 3) := by decide +kernel
theorem d_Nf_mix_96 : decode b_Nf_mix 96 = .ok (.invokevirtual 119, 3) := by decide +kernel
theorem d_Nf_mix_99 : decode b_Nf_mix 99 = .ok (.if_icmp .ge 42, 3) := by decide +kernel
theorem d_Nf_mix_102 : decode b_Nf_mix 102 = .ok (.aload_n 0, 1) := by decide +kernel
theorem d_Nf_mix_103 : decode b_Nf_mix 103 = .ok (.getfield 50, 3) := by decide +kernel
theorem d_Nf_mix_106 : decode b_Nf_mix 106 = .ok (.iload 9, 2) := by decide +kernel
theorem d_Nf_mix_108 : decode b_Nf_mix 108 = .ok (.iload_n 2, 1) := by decide +kernel
theorem d_Nf_mix_109 : decode b_Nf_mix 109 = .ok (.i2l, 1) := by decide +kernel
theorem d_Nf_mix_110 : decode b_Nf_mix 110 = .ok (.aload 6, 2) := by decide +kernel
theorem d_Nf_mix_112 : decode b_Nf_mix 112 = .ok (.getfield 104, 3) := by decide +kernel
theorem d_Nf_mix_115 : decode b_Nf_mix 115 = .ok (.iload 9, 2) := by decide +kernel
theorem d_Nf_mix_117 : decode b_Nf_mix 117 = .ok (.iaload, 1) := by decide +kernel
theorem d_Nf_mix_118 : decode b_Nf_mix 118 = .ok (.i2l, 1) := by decide +kernel
theorem d_Nf_mix_119 : decode b_Nf_mix 119 = .ok (.lmul, 1) := by decide +kernel
theorem d_Nf_mix_120 : decode b_Nf_mix 120 = .ok (.iload 4, 2) := by decide +kernel
theorem d_Nf_mix_122 : decode b_Nf_mix 122 = .ok (.i2l, 1) := by decide +kernel
theorem d_Nf_mix_123 : decode b_Nf_mix 123 = .ok (.aload 7, 2) := by decide +kernel
theorem d_Nf_mix_125 : decode b_Nf_mix 125 = .ok (.getfield 104, 3) := by decide +kernel
theorem d_Nf_mix_128 : decode b_Nf_mix 128 = .ok (.iload 9, 2) := by decide +kernel
theorem d_Nf_mix_130 : decode b_Nf_mix 130 = .ok (.iaload, 1) := by decide +kernel
theorem d_Nf_mix_131 : decode b_Nf_mix 131 = .ok (.i2l, 1) := by decide +kernel
theorem d_Nf_mix_132 : decode b_Nf_mix 132 = .ok (.lmul, 1) := by decide +kernel
theorem d_Nf_mix_133 : decode b_Nf_mix 133 = .ok (.ladd, 1) := by decide +kernel
theorem d_Nf_mix_134 : decode b_Nf_mix 134 = .ok (.lastore, 1) := by decide +kernel
theorem d_Nf_mix_135 : decode b_Nf_mix 135 = .ok (.iinc 9 1, 3) := by decide +kernel
theorem d_Nf_mix_138 : decode b_Nf_mix 138 = .ok (.goto (-53), 3) := by decide +kernel
theorem d_Nf_mix_141 : decode b_Nf_mix 141 = .ok (.aload_n 0, 1) := by decide +kernel
theorem d_Nf_mix_142 : decode b_Nf_mix 142 = .ok (.aload 8, 2) := by decide +kernel
theorem d_Nf_mix_144 : decode b_Nf_mix 144 = .ok (.aload 6, 2) := by decide +kernel
theorem d_Nf_mix_146 : decode b_Nf_mix 146 = .ok (.getfield 95, 3) := by decide +kernel
theorem d_Nf_mix_149 : decode b_Nf_mix 149 = .ok (.invokevirtual 112, 3) := by decide +kernel
theorem d_Nf_mix_152 : decode b_Nf_mix 152 = .ok (.ireturn, 1) := by decide +kernel
def q_Nf_mix_L85 (g6 : Nat) (g7 : Nat) (g8 : Nat) (kx141 : Mem → Prop) (post : Int32 → Mem → Prop) : Nat → Int32 → Int32 → Int32 → Mem → Prop
  | 0, _, _, _, _ => False
  | n + 1, x2, x4, x9, M => q_Net_size (M.1 (32 + 2 * g6) 0) M (fun r15 M14 => (r15 ≤ x9 → kx141 M14) ∧ (¬ r15 ≤ x9 → vp_in x9 12 ∧ (vp_in x9 12 ∧ (vp_in x9 12 ∧ (∀ M16, M16 = wJ M14 31 x9.toNatClampNeg ((x2.toInt64 * ((M14.1 (33 + 2 * g6) x9.toNatClampNeg).toInt64)) + (x4.toInt64 * ((M14.1 (33 + 2 * g7) x9.toNatClampNeg).toInt64))) → q_Nf_mix_L85 g6 g7 g8 kx141 post n x2 x4 (x9 + 1) M16)))))
set_option maxHeartbeats 4000000 in
theorem s_Nf_mix_L85 {γ : Gm} {κ : Kp} {post : Int32 → Mem → Prop} {g6 : Nat} {g7 : Nat} {g8 : Nat} {kx141 : Mem → Prop} (C : Cx γ κ "NetForms" b_Nf_mix 10 3 (0, 0)) (R : Rt γ (some .int)) (h_g6 : g6 < 12) (h_g7 : g7 < 12) (h_g8 : g8 < 12) (hx141 : ∀ M', kx141 M' → G γ κ 10 (0, 0) (Gq γ κ (pI post)) 141 [(0, .ref (κ.1 + 0)), (6, .ref (κ.1 + (32 + 2 * g6))), (8, .ref (κ.1 + (32 + 2 * g8)))] [] M') : ∀ (n : Nat) (x2 : Int32) (x4 : Int32) (x9 : Int32) (M : Mem), q_Nf_mix_L85 g6 g7 g8 kx141 post n x2 x4 x9 M → G γ κ 10 (0, 0) (Gq γ κ (pI post)) 85 [(0, .ref (κ.1 + 0)), (2, .int x2), (4, .int x4), (6, .ref (κ.1 + (32 + 2 * g6))), (7, .ref (κ.1 + (32 + 2 * g7))), (8, .ref (κ.1 + (32 + 2 * g8))), (9, .int x9)] [] M := by
  intro n
  induction n with
  | zero => intro x2 x4 x9 M hq; exact hq.elim
  | succ n ih =>
    intro x2 x4 x9 M hq
    unfold q_Nf_mix_L85 at hq
    refine G_iload C 6 d_Nf_mix_85 rfl ?_
    refine G_aload_n C 0 d_Nf_mix_87 rfl rfl ?_
    refine Gg_Nf_shape C wd_163 d_Nf_mix_88 ?_
    refine G_aload C 3 d_Nf_mix_91 rfl ?_
    refine Gg_Frm_degree C h_g6 wd_150 d_Nf_mix_93 ?_
    refine G_callV C (s_Net_size hq) v_Net_size i_Net_size z_Net_size wd_282 (by decide) rfl (k := 1) (ci := 3) (by decide) rfl rfl rfl (rest := [_]) (by rfl) (Nat.le_of_ble_eq_true rfl) d_Nf_mix_96 (ki_ (fun r15 M14 hq => ?_))
    refine G_icmp_ge C (tgt := 141) d_Nf_mix_99 (by decide) (fun c => ?_) (fun c => ?_)
    · replace hq := hq.1 c
      exact G_sub [0, 3, 5] (by rfl) (hx141 _ hq)
    · replace hq := hq.2 c
      refine G_aload_n C 0 d_Nf_mix_102 rfl rfl ?_
      refine Gg_Nf_made C wd_169 d_Nf_mix_103 ?_
      refine G_iload C 6 d_Nf_mix_106 rfl ?_
      refine G_iload_n C 1 d_Nf_mix_108 rfl rfl ?_
      refine G_i2l C d_Nf_mix_109 ?_
      refine G_aload C 3 d_Nf_mix_110 rfl ?_
      refine Gg_Frm_numbers C h_g6 wd_153 d_Nf_mix_112 ?_
      refine G_iload C 6 d_Nf_mix_115 rfl ?_
      refine G_iaload C (by have := h_g6; omega) (sh_formA κ h_g6) hq.1 d_Nf_mix_117 ?_
      replace hq := hq.2
      refine G_i2l C d_Nf_mix_118 ?_
      refine G_lmul C d_Nf_mix_119 ?_
      refine G_iload C 2 d_Nf_mix_120 rfl ?_
      refine G_i2l C d_Nf_mix_122 ?_
      refine G_aload C 4 d_Nf_mix_123 rfl ?_
      refine Gg_Frm_numbers C h_g7 wd_153 d_Nf_mix_125 ?_
      refine G_iload C 6 d_Nf_mix_128 rfl ?_
      refine G_iaload C (by have := h_g7; omega) (sh_formA κ h_g7) hq.1 d_Nf_mix_130 ?_
      replace hq := hq.2
      refine G_i2l C d_Nf_mix_131 ?_
      refine G_lmul C d_Nf_mix_132 ?_
      refine G_ladd C d_Nf_mix_133 ?_
      refine G_lastore C (k := 31) (by decide) (fun _ _ => rfl) hq.1 d_Nf_mix_134 ?_
      replace hq := hq.2 _ rfl
      refine G_iinc C (v := _ + 1) (lv' := [(9, _), (0, _), (2, _), (4, _), (6, _), (7, _), (8, _)]) 6 d_Nf_mix_135 rfl rfl (by decide) rfl ?_
      refine G_goto C (tgt := 85) d_Nf_mix_138 (by decide) ?_
      exact G_sub [1, 2, 3, 4, 5, 6, 0] (by rfl) (ih _ _ _ _ hq)
def q_Nf_mix (a1 : Int32) (a2 : Int32) (a3 : Int32) (a4 : Int32) (a5 : Int32) (M : Mem) (post : Int32 → Mem → Prop) : Prop := q_Nf_formAt a1 M (fun r2 M1 => q_Nf_formAt a3 M1 (fun r4 M3 => q_Nf_formAt a5 M3 (fun r6 M5 => (r2 = none → post (-2 : Int32) M5) ∧ (∀ i7, r2 = some i7 → i7 < 12 ∧ ((r4 = none → post (-2 : Int32) M5) ∧ (∀ i8, r4 = some i8 → i8 < 12 ∧ ((r6 = none → post (-2 : Int32) M5) ∧ (∀ i9, r6 = some i9 → i9 < 12 ∧ (q_Nf_isWithin a2.toInt64 (1000 : Int32) M5 (fun r11 M10 => (r11 = 0 → post (-2 : Int32) M10) ∧ (¬ r11 = 0 → q_Nf_isWithin a4.toInt64 (1000 : Int32) M10 (fun r13 M12 => (¬ r13 = 0 → ((M12.1 (32 + 2 * i7) 0) = (M12.1 (32 + 2 * i8) 0) → ∃ n17, q_Nf_mix_L85 i7 i8 i9 (fun M18 => q_Nf_giveMade i9 (M18.1 (32 + 2 * i7) 0) M18 (fun r20 M19 => post r20 M19)) post n17 a2 a4 (0 : Int32) M12) ∧ (¬ (M12.1 (32 + 2 * i7) 0) = (M12.1 (32 + 2 * i8) 0) → post (-3 : Int32) M12)) ∧ (r13 = 0 → post (-2 : Int32) M12)))))))))))))
set_option maxHeartbeats 4000000 in
theorem s_Nf_mix {l : Launch} {κ : Kp} {a1 : Int32} {a2 : Int32} {a3 : Int32} {a4 : Int32} {a5 : Int32} {M : Mem} {post : Int32 → Mem → Prop} (hq : q_Nf_mix a1 a2 a3 a4 a5 M post) : Ct l κ y_Nf_mix b_Nf_mix 10 (some .int) 3 [.ref (κ.1 + 0), .int a1, .int a2, .int a3, .int a4, .int a5] M (pI post) := by
  refine Ct_of (by decide) (Nat.le_of_ble_eq_true rfl) (fun γ hγ C R => ?_)
  subst hγ
  unfold q_Nf_mix at hq
  show G γ κ 10 (0, 0) (Gq γ κ (pI post)) 0 [(0, .ref (κ.1 + 0)), (1, .int a1), (2, .int a2), (3, .int a3), (4, .int a4), (5, .int a5)] [] M
  refine G_aload_n C 0 d_Nf_mix_0 rfl rfl ?_
  refine G_iload_n C 1 d_Nf_mix_1 rfl rfl ?_
  refine G_callV C (s_Nf_formAt hq) v_Nf_formAt i_Nf_formAt z_Nf_formAt wd_257 (by decide) rfl (k := 0) (ci := 6) (by decide) rfl rfl rfl (rest := []) (by rfl) (Nat.le_of_ble_eq_true rfl) d_Nf_mix_2 (kf_ (fun r2 M1 hq => ?_))
  refine G_astoreq C (lv' := [(6, _), (0, _), (1, _), (2, _), (3, _), (4, _), (5, _)]) d_Nf_mix_5 (by decide) rfl ?_
  refine G_aload_n C 1 d_Nf_mix_7 rfl rfl ?_
  refine G_iload_n C 4 d_Nf_mix_8 rfl rfl ?_
  refine G_callV C (s_Nf_formAt hq) v_Nf_formAt i_Nf_formAt z_Nf_formAt wd_257 (by decide) rfl (k := 0) (ci := 6) (by decide) rfl rfl rfl (rest := []) (by rfl) (Nat.le_of_ble_eq_true rfl) d_Nf_mix_9 (kf_ (fun r4 M3 hq => ?_))
  refine G_astoreq2 C (lv' := [(7, _), (6, _), (0, _), (1, _), (2, _), (3, _), (4, _), (5, _)]) d_Nf_mix_12 (by decide) rfl ?_
  refine G_aload_n C 2 d_Nf_mix_14 rfl rfl ?_
  refine G_iload C 7 d_Nf_mix_15 rfl ?_
  refine G_callV C (s_Nf_formAt hq) v_Nf_formAt i_Nf_formAt z_Nf_formAt wd_257 (by decide) rfl (k := 0) (ci := 6) (by decide) rfl rfl rfl (rest := []) (by rfl) (Nat.le_of_ble_eq_true rfl) d_Nf_mix_17 (kf_ (fun r6 M5 hq => ?_))
  refine G_astoreq2 C (lv' := [(8, _), (7, _), (6, _), (0, _), (1, _), (2, _), (3, _), (4, _), (5, _)]) d_Nf_mix_20 (by decide) rfl ?_
  refine G_aloadq C 2 d_Nf_mix_22 rfl ?_
  refine G_ifnullq C (tgt := 37) d_Nf_mix_24 (by decide) (fun c => ?_) (fun i7 c => ?_)
  · replace hq := hq.1 c
    refine G_bipush C (v := -2) d_Nf_mix_37 (by decide) ?_
    exact G_iret C R d_Nf_mix_39 ⟨_, rfl, hq⟩
  · have hz := hq.2 i7 c
    clear hq
    subst c
    obtain ⟨h_i7, hq⟩ := hz
    refine G_aloadq C 1 d_Nf_mix_27 rfl ?_
    refine G_ifnullq C (tgt := 37) d_Nf_mix_29 (by decide) (fun c => ?_) (fun i8 c => ?_)
    · replace hq := hq.1 c
      refine G_bipush C (v := -2) d_Nf_mix_37 (by decide) ?_
      exact G_iret C R d_Nf_mix_39 ⟨_, rfl, hq⟩
    · have hz := hq.2 i8 c
      clear hq
      subst c
      obtain ⟨h_i8, hq⟩ := hz
      refine G_aloadq C 0 d_Nf_mix_32 rfl ?_
      refine G_ifnonnullq C (tgt := 40) d_Nf_mix_34 (by decide) (fun i9 c => ?_) (fun c => ?_)
      · have hz := hq.2 i9 c
        clear hq
        subst c
        obtain ⟨h_i9, hq⟩ := hz
        refine G_iload_n C 5 d_Nf_mix_40 rfl rfl ?_
        refine G_i2l C d_Nf_mix_41 ?_
        refine G_sipush C (v := 1000) d_Nf_mix_42 (by decide) ?_
        refine G_callS C (s_Nf_isWithin hq) v_Nf_isWithin z_Nf_isWithin wd_266 (by decide) rfl (rest := []) (by rfl) (Nat.le_of_ble_eq_true rfl) d_Nf_mix_45 (ki_ (fun r11 M10 hq => ?_))
        refine G_if_eq C (tgt := 63) d_Nf_mix_48 (by decide) (fun c => ?_) (fun c => ?_)
        · replace hq := hq.1 c
          refine G_bipush C (v := -2) d_Nf_mix_63 (by decide) ?_
          exact G_iret C R d_Nf_mix_65 ⟨_, rfl, hq⟩
        · replace hq := hq.2 c
          refine G_iload C 7 d_Nf_mix_51 rfl ?_
          refine G_i2l C d_Nf_mix_53 ?_
          refine G_sipush C (v := 1000) d_Nf_mix_54 (by decide) ?_
          refine G_callS C (s_Nf_isWithin hq) v_Nf_isWithin z_Nf_isWithin wd_266 (by decide) rfl (rest := []) (by rfl) (Nat.le_of_ble_eq_true rfl) d_Nf_mix_57 (ki_ (fun r13 M12 hq => ?_))
          refine G_if_ne C (tgt := 66) d_Nf_mix_60 (by decide) (fun c => ?_) (fun c => ?_)
          · replace hq := hq.1 c
            refine G_aload C 2 d_Nf_mix_66 rfl ?_
            refine Gg_Frm_degree C h_i7 wd_150 d_Nf_mix_68 ?_
            refine G_aload C 1 d_Nf_mix_71 rfl ?_
            refine Gg_Frm_degree C h_i8 wd_150 d_Nf_mix_73 ?_
            refine G_icmp_eq C (tgt := 82) d_Nf_mix_76 (by decide) (fun c => ?_) (fun c => ?_)
            · replace hq := hq.1 c
              refine G_iconst C (v := 0) d_Nf_mix_82 (by decide) ?_
              refine G_istore C (lv' := [(9, _), (8, _), (7, _), (6, _), (0, _), (1, _), (2, _), (3, _), (4, _), (5, _)]) d_Nf_mix_83 (by decide) rfl ?_
              obtain ⟨n17, hq⟩ := hq
              refine G_sub [4, 6, 8, 3, 2, 1, 0] (by rfl) (s_Nf_mix_L85 C R h_i7 h_i8 h_i9 ?_ n17 _ _ _ _ hq)
              · intro M18 hq
                refine G_aload_n C 0 d_Nf_mix_141 rfl rfl ?_
                refine G_aload C 2 d_Nf_mix_142 rfl ?_
                refine G_aload C 1 d_Nf_mix_144 rfl ?_
                refine Gg_Frm_degree C h_i7 wd_150 d_Nf_mix_146 ?_
                refine G_callV C (s_Nf_giveMade h_i9 hq) v_Nf_giveMade i_Nf_giveMade z_Nf_giveMade wd_287 (by decide) rfl (k := 0) (ci := 6) (by decide) rfl rfl rfl (rest := []) (by rfl) (Nat.le_of_ble_eq_true rfl) d_Nf_mix_149 (ki_ (fun r20 M19 hq => ?_))
                exact G_iret C R d_Nf_mix_152 ⟨_, rfl, hq⟩
            · replace hq := hq.2 c
              refine G_bipush C (v := -3) d_Nf_mix_79 (by decide) ?_
              exact G_iret C R d_Nf_mix_81 ⟨_, rfl, hq⟩
          · replace hq := hq.2 c
            refine G_bipush C (v := -2) d_Nf_mix_63 (by decide) ?_
            exact G_iret C R d_Nf_mix_65 ⟨_, rfl, hq⟩
      · replace hq := hq.1 c
        refine G_bipush C (v := -2) d_Nf_mix_37 (by decide) ?_
        exact G_iret C R d_Nf_mix_39 ⟨_, rfl, hq⟩
