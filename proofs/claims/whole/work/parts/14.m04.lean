theorem d_Wal_leastWithout_0 : decode b_Wal_leastWithout 0 = .ok (.iconst 0, 1) := by decide +kernel
theorem d_Wal_leastWithout_1 : decode b_Wal_leastWithout 1 = .ok (.istore_n 2, 1) := by decide +kernel
theorem d_Wal_leastWithout_2 : decode b_Wal_leastWithout 2 = .ok (.iload_n 2, 1) := by decide +kernel
theorem d_Wal_leastWithout_3 : decode b_Wal_leastWithout 3 = .ok (.aload_n 1, 1) := by decide +kernel
theorem d_Wal_leastWithout_4 : decode b_Wal_leastWithout 4 = .ok (.getfield 19, 3) := by decide +kernel
theorem d_Wal_leastWithout_7 : decode b_Wal_leastWithout 7 = .ok (.if_icmp .ge 30, 3) := by decide +kernel
theorem d_Wal_leastWithout_10 : decode b_Wal_leastWithout 10 = .ok (.aload_n 1, 1) := by decide +kernel
theorem d_Wal_leastWithout_11 : decode b_Wal_leastWithout 11 = .ok (.getfield 25, 3) := by decide +kernel
theorem d_Wal_leastWithout_14 : decode b_Wal_leastWithout 14 = .ok (.iload_n 2, 1) := by decide +kernel
theorem d_Wal_leastWithout_15 : decode b_Wal_leastWithout 15 = .ok (.iaload, 1) := by decide +kernel
theorem d_Wal_leastWithout_16 : decode b_Wal_leastWithout 16 = .ok (.iload_n 2, 1) := by decide +kernel
theorem d_Wal_leastWithout_17 : decode b_Wal_leastWithout 17 = .ok (.if_icmp .ne 14, 3) := by decide +kernel
theorem d_Wal_leastWithout_20 : decode b_Wal_leastWithout 20 = .ok (.aload_n 0, 1) := by decide +kernel
theorem d_Wal_leastWithout_21 : decode b_Wal_leastWithout 21 = .ok (.aload_n 1, 1) := by decide +kernel
theorem d_Wal_leastWithout_22 : decode b_Wal_leastWithout 22 = .ok (.iload_n 2, 1) := by decide +kernel
theorem d_Wal_leastWithout_23 : decode b_Wal_leastWithout 23 = .ok (.invokevirtual 28, 3) := by decide +kernel
theorem d_Wal_leastWithout_26 : decode b_Wal_leastWithout 26 = .ok (.ifCond .ne 5, 3) := by decide +kernel
theorem d_Wal_leastWithout_29 : decode b_Wal_leastWithout 29 = .ok (.iload_n 2, 1) := by decide +kernel
theorem d_Wal_leastWithout_30 : decode b_Wal_leastWithout 30 = .ok (.ireturn, 1) := by decide +kernel
theorem d_Wal_leastWithout_31 : decode b_Wal_leastWithout 31 = .ok (.iinc 2 1, 3) := by decide +kernel
theorem d_Wal_leastWithout_34 : decode b_Wal_leastWithout 34 = .ok (.goto (-32), 3) := by decide +kernel
theorem d_Wal_leastWithout_37 : decode b_Wal_leastWithout 37 = .ok (.iconst (-1), 1) := by decide +kernel
theorem d_Wal_leastWithout_38 : decode b_Wal_leastWithout 38 = .ok (.ireturn, 1) := by decide +kernel
def q_Wal_leastWithout_L2 (kx29 : Int32 → Mem → Prop) (kx37 : Mem → Prop) (post : Int32 → Mem → Prop) : Nat → Int32 → Mem → Prop
  | 0, _, _ => False
  | n + 1, x2, M => ((M.1 1 0) ≤ x2 → kx37 M) ∧ (¬ (M.1 1 0) ≤ x2 → vp_in x2 6 ∧ ((¬ (M.1 7 x2.toNatClampNeg) = x2 → q_Wal_leastWithout_L2 kx29 kx37 post n (x2 + 1) M) ∧ ((M.1 7 x2.toNatClampNeg) = x2 → q_Wal_isWalled x2 M (fun r2 M1 => (¬ r2 = 0 → q_Wal_leastWithout_L2 kx29 kx37 post n (x2 + 1) M1) ∧ (r2 = 0 → kx29 x2 M1)))))
set_option maxHeartbeats 4000000 in
theorem s_Wal_leastWithout_L2 {γ : Gm} {κ : Kp} {post : Int32 → Mem → Prop} {kx29 : Int32 → Mem → Prop} {kx37 : Mem → Prop} (C : Cx γ κ "NetForms$Walls" b_Wal_leastWithout 3 1 (0, 0)) (R : Rt γ (some .int)) (hx29 : ∀ y0 M', kx29 y0 M' → G γ κ 3 (0, 0) (Gq γ κ (pI post)) 29 [(2, .int y0)] [] M') (hx37 : ∀ M', kx37 M' → G γ κ 3 (0, 0) (Gq γ κ (pI post)) 37 [] [] M') : ∀ (n : Nat) (x2 : Int32) (M : Mem), q_Wal_leastWithout_L2 kx29 kx37 post n x2 M → G γ κ 3 (0, 0) (Gq γ κ (pI post)) 2 [(0, .ref (κ.1 + 9)), (1, .ref (κ.1 + 1)), (2, .int x2)] [] M := by
  intro n
  induction n with
  | zero => intro x2 M hq; exact hq.elim
  | succ n ih =>
    intro x2 M hq
    unfold q_Wal_leastWithout_L2 at hq
    refine G_iload_n C 2 d_Wal_leastWithout_2 rfl rfl ?_
    refine G_aload_n C 1 d_Wal_leastWithout_3 rfl rfl ?_
    refine Gg_Net_points C wd_26 d_Wal_leastWithout_4 ?_
    refine G_icmp_ge C (tgt := 37) d_Wal_leastWithout_7 (by decide) (fun c => ?_) (fun c => ?_)
    · replace hq := hq.1 c
      exact G_sub [] (by rfl) (hx37 _ hq)
    · replace hq := hq.2 c
      refine G_aload_n C 1 d_Wal_leastWithout_10 rfl rfl ?_
      refine Gg_Net_leasts C wd_46 d_Wal_leastWithout_11 ?_
      refine G_iload_n C 2 d_Wal_leastWithout_14 rfl rfl ?_
      refine G_iaload C (k := 7) (by decide) (fun _ _ => rfl) hq.1 d_Wal_leastWithout_15 ?_
      replace hq := hq.2
      refine G_iload_n C 2 d_Wal_leastWithout_16 rfl rfl ?_
      refine G_icmp_ne C (tgt := 31) d_Wal_leastWithout_17 (by decide) (fun c => ?_) (fun c => ?_)
      · replace hq := hq.1 c
        refine G_iinc C (v := _ + 1) (lv' := [(2, _), (0, _), (1, _)]) 2 d_Wal_leastWithout_31 rfl rfl (by decide) rfl ?_
        refine G_goto C (tgt := 2) d_Wal_leastWithout_34 (by decide) ?_
        exact G_sub [1, 2, 0] (by rfl) (ih _ _ hq)
      · replace hq := hq.2 c
        refine G_aload_n C 0 d_Wal_leastWithout_20 rfl rfl ?_
        refine G_aload_n C 1 d_Wal_leastWithout_21 rfl rfl ?_
        refine G_iload_n C 2 d_Wal_leastWithout_22 rfl rfl ?_
        refine G_callV C (s_Wal_isWalled hq) v_Wal_isWalled i_Wal_isWalled z_Wal_isWalled wd_444 (by decide) rfl (k := 9) (ci := 4) (by decide) rfl rfl rfl (rest := []) (by rfl) (Nat.le_of_ble_eq_true rfl) d_Wal_leastWithout_23 (ki_ (fun r2 M1 hq => ?_))
        refine G_if_ne C (tgt := 31) d_Wal_leastWithout_26 (by decide) (fun c => ?_) (fun c => ?_)
        · replace hq := hq.1 c
          refine G_iinc C (v := _ + 1) (lv' := [(2, _), (0, _), (1, _)]) 2 d_Wal_leastWithout_31 rfl rfl (by decide) rfl ?_
          refine G_goto C (tgt := 2) d_Wal_leastWithout_34 (by decide) ?_
          exact G_sub [1, 2, 0] (by rfl) (ih _ _ hq)
        · replace hq := hq.2 c
          exact G_sub [2] (by rfl) (hx29 _ _ hq)
def q_Wal_leastWithout (M : Mem) (post : Int32 → Mem → Prop) : Prop := ∃ n3, q_Wal_leastWithout_L2 (fun x4 M5 => post x4 M5) (fun M6 => post (-1 : Int32) M6) post n3 (0 : Int32) M
set_option maxHeartbeats 4000000 in
theorem s_Wal_leastWithout {l : Launch} {κ : Kp} {M : Mem} {post : Int32 → Mem → Prop} (hq : q_Wal_leastWithout M post) : Ct l κ y_Wal_leastWithout b_Wal_leastWithout 3 (some .int) 1 [.ref (κ.1 + 9), .ref (κ.1 + 1)] M (pI post) := by
  refine Ct_of (by decide) (Nat.le_of_ble_eq_true rfl) (fun γ hγ C R => ?_)
  subst hγ
  unfold q_Wal_leastWithout at hq
  show G γ κ 3 (0, 0) (Gq γ κ (pI post)) 0 [(0, .ref (κ.1 + 9)), (1, .ref (κ.1 + 1))] [] M
  refine G_iconst C (v := 0) d_Wal_leastWithout_0 (by decide) ?_
  refine G_istore_n C (lv' := [(2, _), (0, _), (1, _)]) d_Wal_leastWithout_1 rfl (by decide) rfl ?_
  obtain ⟨n3, hq⟩ := hq
  refine G_sub [1, 2, 0] (by rfl) (s_Wal_leastWithout_L2 C R ?_ ?_ n3 _ _ hq)
  · intro x4 M5 hq
    refine G_iload_n C 0 d_Wal_leastWithout_29 rfl rfl ?_
    exact G_iret C R d_Wal_leastWithout_30 ⟨_, rfl, hq⟩
  · intro M6 hq
    refine G_iconst C (v := -1) d_Wal_leastWithout_37 (by decide) ?_
    exact G_iret C R d_Wal_leastWithout_38 ⟨_, rfl, hq⟩
theorem d_Nf_balanceAt_0 : decode b_Nf_balanceAt 0 = .ok (.aload_n 0, 1) := by decide +kernel
theorem d_Nf_balanceAt_1 : decode b_Nf_balanceAt 1 = .ok (.getfield 25, 3) := by decide +kernel
theorem d_Nf_balanceAt_4 : decode b_Nf_balanceAt 4 = .ok (.getfield 179, 3) := by decide +kernel
theorem d_Nf_balanceAt_7 : decode b_Nf_balanceAt 7 = .ok (.iload_n 1, 1) := by decide +kernel
theorem d_Nf_balanceAt_8 : decode b_Nf_balanceAt 8 = .ok (.baload, 1) := by decide +kernel
theorem d_Nf_balanceAt_9 : decode b_Nf_balanceAt 9 = .ok (.ifCond .eq 4, 3) := by decide +kernel
theorem d_Nf_balanceAt_12 : decode b_Nf_balanceAt 12 = .ok (.return_, 1) := by decide +kernel
theorem d_Nf_balanceAt_13 : decode b_Nf_balanceAt 13 = .ok (.aload_n 0, 1) := by decide +kernel
theorem d_Nf_balanceAt_14 : decode b_Nf_balanceAt 14 = .ok (.getfield 39, 3) := by decide +kernel
theorem d_Nf_balanceAt_17 : decode b_Nf_balanceAt 17 = .ok (.iload_n 1, 1) := by decide +kernel
theorem d_Nf_balanceAt_18 : decode b_Nf_balanceAt 18 = .ok (.iload_n 1, 1) := by decide +kernel
theorem d_Nf_balanceAt_19 : decode b_Nf_balanceAt 19 = .ok (.lconst 1, 1) := by decide +kernel
theorem d_Nf_balanceAt_20 : decode b_Nf_balanceAt 20 = .ok (.invokevirtual 248, 3) := by decide +kernel
theorem d_Nf_balanceAt_23 : decode b_Nf_balanceAt 23 = .ok (.aload_n 0, 1) := by decide +kernel
theorem d_Nf_balanceAt_24 : decode b_Nf_balanceAt 24 = .ok (.getfield 25, 3) := by decide +kernel
theorem d_Nf_balanceAt_27 : decode b_Nf_balanceAt 27 = .ok (.getfield 179, 3) := by decide +kernel
theorem d_Nf_balanceAt_30 : decode b_Nf_balanceAt 30 = .ok (.iload_n 2, 1) := by decide +kernel
theorem d_Nf_balanceAt_31 : decode b_Nf_balanceAt 31 = .ok (.baload, 1) := by decide +kernel
theorem d_Nf_balanceAt_32 : decode b_Nf_balanceAt 32 = .ok (.ifCond .eq 24, 3) := by decide +kernel
theorem d_Nf_balanceAt_35 : decode b_Nf_balanceAt 35 = .ok (.aload_n 0, 1) := by decide +kernel
theorem d_Nf_balanceAt_36 : decode b_Nf_balanceAt 36 = .ok (.getfield 39, 3) := by decide +kernel
theorem d_Nf_balanceAt_39 : decode b_Nf_balanceAt 39 = .ok (.iload_n 1, 1) := by decide +kernel
theorem d_Nf_balanceAt_40 : decode b_Nf_balanceAt 40 = .ok (.aload_n 0, 1) := by decide +kernel
theorem d_Nf_balanceAt_41 : decode b_Nf_balanceAt 41 = .ok (.getfield 25, 3) := by decide +kernel
theorem d_Nf_balanceAt_44 : decode b_Nf_balanceAt 44 = .ok (.getfield 183, 3) := by decide +kernel
theorem d_Nf_balanceAt_47 : decode b_Nf_balanceAt 47 = .ok (.iload_n 2, 1) := by decide +kernel
theorem d_Nf_balanceAt_48 : decode b_Nf_balanceAt 48 = .ok (.iaload, 1) := by decide +kernel
theorem d_Nf_balanceAt_49 : decode b_Nf_balanceAt 49 = .ok (.i2l, 1) := by decide +kernel
theorem d_Nf_balanceAt_50 : decode b_Nf_balanceAt 50 = .ok (.invokevirtual 260, 3) := by decide +kernel
theorem d_Nf_balanceAt_53 : decode b_Nf_balanceAt 53 = .ok (.goto 15, 3) := by decide +kernel
theorem d_Nf_balanceAt_56 : decode b_Nf_balanceAt 56 = .ok (.aload_n 0, 1) := by decide +kernel
theorem d_Nf_balanceAt_57 : decode b_Nf_balanceAt 57 = .ok (.getfield 39, 3) := by decide +kernel
theorem d_Nf_balanceAt_60 : decode b_Nf_balanceAt 60 = .ok (.iload_n 1, 1) := by decide +kernel
theorem d_Nf_balanceAt_61 : decode b_Nf_balanceAt 61 = .ok (.iload_n 2, 1) := by decide +kernel
theorem d_Nf_balanceAt_62 : decode b_Nf_balanceAt 62 = .ok (.ldc2_w 258, 3) := by decide +kernel
theorem d_Nf_balanceAt_65 : decode b_Nf_balanceAt 65 = .ok (.invokevirtual 248, 3) := by decide +kernel
theorem d_Nf_balanceAt_68 : decode b_Nf_balanceAt 68 = .ok (.return_, 1) := by decide +kernel
def q_Nf_balanceAt (a1 : Int32) (a2 : Int32) (M : Mem) (post : Mem → Prop) : Prop := vp_in a1 6 ∧ (((M.1 10 a1.toNatClampNeg) = 0 → q_Bal_add a1 a1 (1 : Int64) M (fun M1 => vp_in a2 6 ∧ (((M1.1 10 a2.toNatClampNeg) = 0 → q_Bal_add a1 a2 (-1 : Int64) M1 (fun M2 => post M2)) ∧ (¬ (M1.1 10 a2.toNatClampNeg) = 0 → vp_in a2 6 ∧ (q_Bal_addDue a1 ((M1.1 11 a2.toNatClampNeg).toInt64) M1 (fun M3 => post M3)))))) ∧ (¬ (M.1 10 a1.toNatClampNeg) = 0 → post M))
set_option maxHeartbeats 4000000 in
theorem s_Nf_balanceAt {l : Launch} {κ : Kp} {a1 : Int32} {a2 : Int32} {M : Mem} {post : Mem → Prop} (hq : q_Nf_balanceAt a1 a2 M post) : Ct l κ y_Nf_balanceAt b_Nf_balanceAt 3 (none) 1 [.ref (κ.1 + 0), .int a1, .int a2] M (pV post) := by
  refine Ct_of (by decide) (Nat.le_of_ble_eq_true rfl) (fun γ hγ C R => ?_)
  subst hγ
  unfold q_Nf_balanceAt at hq
  show G γ κ 3 (0, 0) (Gq γ κ (pV post)) 0 [(0, .ref (κ.1 + 0)), (1, .int a1), (2, .int a2)] [] M
  refine G_aload_n C 0 d_Nf_balanceAt_0 rfl rfl ?_
  refine Gg_Nf_walls C wd_165 d_Nf_balanceAt_1 ?_
  refine Gg_Wal_there C wd_76 d_Nf_balanceAt_4 ?_
  refine G_iload_n C 1 d_Nf_balanceAt_7 rfl rfl ?_
  refine G_baload C (k := 10) (by decide) (fun _ _ => rfl) hq.1 d_Nf_balanceAt_8 ?_
  replace hq := hq.2
  refine G_if_eq C (tgt := 13) d_Nf_balanceAt_9 (by decide) (fun c => ?_) (fun c => ?_)
  · replace hq := hq.1 c
    refine G_aload_n C 0 d_Nf_balanceAt_13 rfl rfl ?_
    refine Gg_Nf_balance C wd_167 d_Nf_balanceAt_14 ?_
    refine G_iload_n C 1 d_Nf_balanceAt_17 rfl rfl ?_
    refine G_iload_n C 1 d_Nf_balanceAt_18 rfl rfl ?_
    refine G_lconst C (v := 1) d_Nf_balanceAt_19 (by decide) ?_
    refine G_callV C (s_Bal_add hq) v_Bal_add i_Bal_add z_Bal_add wd_359 (by decide) rfl (k := 15) (ci := 0) (by decide) rfl rfl rfl (rest := []) (by rfl) (Nat.le_of_ble_eq_true rfl) d_Nf_balanceAt_20 (kv_ (fun M1 hq => ?_))
    refine G_aload_n C 0 d_Nf_balanceAt_23 rfl rfl ?_
    refine Gg_Nf_walls C wd_165 d_Nf_balanceAt_24 ?_
    refine Gg_Wal_there C wd_76 d_Nf_balanceAt_27 ?_
    refine G_iload_n C 2 d_Nf_balanceAt_30 rfl rfl ?_
    refine G_baload C (k := 10) (by decide) (fun _ _ => rfl) hq.1 d_Nf_balanceAt_31 ?_
    replace hq := hq.2
    refine G_if_eq C (tgt := 56) d_Nf_balanceAt_32 (by decide) (fun c => ?_) (fun c => ?_)
    · replace hq := hq.1 c
      refine G_aload_n C 0 d_Nf_balanceAt_56 rfl rfl ?_
      refine Gg_Nf_balance C wd_167 d_Nf_balanceAt_57 ?_
      refine G_iload_n C 1 d_Nf_balanceAt_60 rfl rfl ?_
      refine G_iload_n C 2 d_Nf_balanceAt_61 rfl rfl ?_
      refine G_ldc2 C (v := -1) wd_400 d_Nf_balanceAt_62 ?_
      refine G_callV C (s_Bal_add hq) v_Bal_add i_Bal_add z_Bal_add wd_359 (by decide) rfl (k := 15) (ci := 0) (by decide) rfl rfl rfl (rest := []) (by rfl) (Nat.le_of_ble_eq_true rfl) d_Nf_balanceAt_65 (kv_ (fun M2 hq => ?_))
      exact G_vret C R d_Nf_balanceAt_68 ⟨rfl, hq⟩
    · replace hq := hq.2 c
      refine G_aload_n C 0 d_Nf_balanceAt_35 rfl rfl ?_
      refine Gg_Nf_balance C wd_167 d_Nf_balanceAt_36 ?_
      refine G_iload_n C 1 d_Nf_balanceAt_39 rfl rfl ?_
      refine G_aload_n C 0 d_Nf_balanceAt_40 rfl rfl ?_
      refine Gg_Nf_walls C wd_165 d_Nf_balanceAt_41 ?_
      refine Gg_Wal_numbers C wd_78 d_Nf_balanceAt_44 ?_
      refine G_iload_n C 2 d_Nf_balanceAt_47 rfl rfl ?_
      refine G_iaload C (k := 11) (by decide) (fun _ _ => rfl) hq.1 d_Nf_balanceAt_48 ?_
      replace hq := hq.2
      refine G_i2l C d_Nf_balanceAt_49 ?_
      refine G_callV C (s_Bal_addDue hq) v_Bal_addDue i_Bal_addDue z_Bal_addDue wd_401 (by decide) rfl (k := 15) (ci := 0) (by decide) rfl rfl rfl (rest := []) (by rfl) (Nat.le_of_ble_eq_true rfl) d_Nf_balanceAt_50 (kv_ (fun M3 hq => ?_))
      refine G_goto C (tgt := 68) d_Nf_balanceAt_53 (by decide) ?_
      exact G_vret C R d_Nf_balanceAt_68 ⟨rfl, hq⟩
  · replace hq := hq.2 c
    exact G_vret C R d_Nf_balanceAt_12 ⟨rfl, hq⟩
theorem d_Nf_wave_0 : decode b_Nf_wave 0 = .ok (.iload_n 1, 1) := by decide +kernel
theorem d_Nf_wave_1 : decode b_Nf_wave 1 = .ok (.ifCond .eq 13, 3) := by decide +kernel
theorem d_Nf_wave_4 : decode b_Nf_wave 4 = .ok (.iload_n 1, 1) := by decide +kernel
theorem d_Nf_wave_5 : decode b_Nf_wave 5 = .ok (.i2l, 1) := by decide +kernel
theorem d_Nf_wave_6 : decode b_Nf_wave 6 = .ok (.bipush 100, 2) := by decide +kernel
theorem d_Nf_wave_8 : decode b_Nf_wave 8 = .ok (.invokestatic 99, 3) := by decide +kernel
theorem d_Nf_wave_11 : decode b_Nf_wave 11 = .ok (.ifCond .ne 6, 3) := by decide +kernel
theorem d_Nf_wave_14 : decode b_Nf_wave 14 = .ok (.bipush (-2), 2) := by decide +kernel
theorem d_Nf_wave_16 : decode b_Nf_wave 16 = .ok (.ireturn, 1) := by decide +kernel
theorem d_Nf_wave_17 : decode b_Nf_wave 17 = .ok (.iconst 0, 1) := by decide +kernel
theorem d_Nf_wave_18 : decode b_Nf_wave 18 = .ok (.istore_n 2, 1) := by decide +kernel
theorem d_Nf_wave_19 : decode b_Nf_wave 19 = .ok (.iload_n 2, 1) := by decide +kernel
theorem d_Nf_wave_20 : decode b_Nf_wave 20 = .ok (.iload_n 1, 1) := by decide +kernel
theorem d_Nf_wave_21 : decode b_Nf_wave 21 = .ok (.if_icmp .ge 20, 3) := by decide +kernel
theorem d_Nf_wave_24 : decode b_Nf_wave 24 = .ok (.aload_n 0, 1) := by decide +kernel
theorem d_Nf_wave_25 : decode b_Nf_wave 25 = .ok (.getfield 32, 3) := by decide +kernel
theorem d_Nf_wave_28 : decode b_Nf_wave 28 = .ok (.aload_n 0, 1) := by decide +kernel
theorem d_Nf_wave_29 : decode b_Nf_wave 29 = .ok (.getfield 10, 3) := by decide +kernel
theorem d_Nf_wave_32 : decode b_Nf_wave 32 = .ok (.invokevirtual 195, 3) := by decide +kernel
theorem d_Nf_wave_35 : decode b_Nf_wave 35 = .ok (.iinc 2 1, 3) := by decide +kernel
theorem d_Nf_wave_38 : decode b_Nf_wave 38 = .ok (.goto (-19), 3) := by decide +kernel
theorem d_Nf_wave_41 : decode b_Nf_wave 41 = .ok (.iconst 0, 1) := by decide +kernel
theorem d_Nf_wave_42 : decode b_Nf_wave 42 = .ok (.istore_n 2, 1) := by decide +kernel
theorem d_Nf_wave_43 : decode b_Nf_wave 43 = .ok (.iload_n 2, 1) := by decide +kernel
theorem d_Nf_wave_44 : decode b_Nf_wave 44 = .ok (.iload_n 1, 1) := by decide +kernel
theorem d_Nf_wave_45 : decode b_Nf_wave 45 = .ok (.if_icmp .le 20, 3) := by decide +kernel
theorem d_Nf_wave_48 : decode b_Nf_wave 48 = .ok (.aload_n 0, 1) := by decide +kernel
theorem d_Nf_wave_49 : decode b_Nf_wave 49 = .ok (.getfield 32, 3) := by decide +kernel
theorem d_Nf_wave_52 : decode b_Nf_wave 52 = .ok (.aload_n 0, 1) := by decide +kernel
theorem d_Nf_wave_53 : decode b_Nf_wave 53 = .ok (.getfield 10, 3) := by decide +kernel
theorem d_Nf_wave_56 : decode b_Nf_wave 56 = .ok (.invokevirtual 199, 3) := by decide +kernel
theorem d_Nf_wave_59 : decode b_Nf_wave 59 = .ok (.iinc 2 (-1), 3) := by decide +kernel
theorem d_Nf_wave_62 : decode b_Nf_wave 62 = .ok (.goto (-19), 3) := by decide +kernel
theorem d_Nf_wave_65 : decode b_Nf_wave 65 = .ok (.aload_n 0, 1) := by decide +kernel
theorem d_Nf_wave_66 : decode b_Nf_wave 66 = .ok (.getfield 32, 3) := by decide +kernel
theorem d_Nf_wave_69 : decode b_Nf_wave 69 = .ok (.getfield 202, 3) := by decide +kernel
theorem d_Nf_wave_72 : decode b_Nf_wave 72 = .ok (.ireturn, 1) := by decide +kernel
def q_Nf_wave_L19 (kx41 : Int32 → Mem → Prop) (post : Int32 → Mem → Prop) : Nat → Int32 → Int32 → Mem → Prop
  | 0, _, _, _ => False
  | n + 1, x1, x2, M => (x1 ≤ x2 → kx41 x1 M) ∧ (¬ x1 ≤ x2 → q_Wav_stepOn M (fun M3 => q_Nf_wave_L19 kx41 post n x1 (x2 + 1) M3))
set_option maxHeartbeats 4000000 in
theorem s_Nf_wave_L19 {γ : Gm} {κ : Kp} {post : Int32 → Mem → Prop} {kx41 : Int32 → Mem → Prop} (C : Cx γ κ "NetForms" b_Nf_wave 3 1 (0, 0)) (R : Rt γ (some .int)) (hx41 : ∀ y1 M', kx41 y1 M' → G γ κ 3 (0, 0) (Gq γ κ (pI post)) 41 [(0, .ref (κ.1 + 0)), (1, .int y1)] [] M') : ∀ (n : Nat) (x1 : Int32) (x2 : Int32) (M : Mem), q_Nf_wave_L19 kx41 post n x1 x2 M → G γ κ 3 (0, 0) (Gq γ κ (pI post)) 19 [(0, .ref (κ.1 + 0)), (1, .int x1), (2, .int x2)] [] M := by
  intro n
  induction n with
  | zero => intro x1 x2 M hq; exact hq.elim
  | succ n ih =>
    intro x1 x2 M hq
    unfold q_Nf_wave_L19 at hq
    refine G_iload_n C 2 d_Nf_wave_19 rfl rfl ?_
    refine G_iload_n C 1 d_Nf_wave_20 rfl rfl ?_
    refine G_icmp_ge C (tgt := 41) d_Nf_wave_21 (by decide) (fun c => ?_) (fun c => ?_)
    · replace hq := hq.1 c
      exact G_sub [0, 1] (by rfl) (hx41 _ _ hq)
    · replace hq := hq.2 c
      refine G_aload_n C 0 d_Nf_wave_24 rfl rfl ?_
      refine Gg_Nf_motion C wd_166 d_Nf_wave_25 ?_
      refine G_aload_n C 0 d_Nf_wave_28 rfl rfl ?_
      refine Gg_Nf_shape C wd_163 d_Nf_wave_29 ?_
      refine G_callV C (s_Wav_stepOn hq) v_Wav_stepOn i_Wav_stepOn z_Wav_stepOn wd_464 (by decide) rfl (k := 12) (ci := 5) (by decide) rfl rfl rfl (rest := []) (by rfl) (Nat.le_of_ble_eq_true rfl) d_Nf_wave_32 (kv_ (fun M3 hq => ?_))
      refine G_iinc C (v := _ + 1) (lv' := [(2, _), (0, _), (1, _)]) 2 d_Nf_wave_35 rfl rfl (by decide) rfl ?_
      refine G_goto C (tgt := 19) d_Nf_wave_38 (by decide) ?_
      exact G_sub [1, 2, 0] (by rfl) (ih _ _ _ hq)
def q_Nf_wave_L43 (kx65 : Mem → Prop) (post : Int32 → Mem → Prop) : Nat → Int32 → Int32 → Mem → Prop
  | 0, _, _, _ => False
  | n + 1, x1, x2, M => (x2 ≤ x1 → kx65 M) ∧ (¬ x2 ≤ x1 → q_Wav_stepBack M (fun M7 => q_Nf_wave_L43 kx65 post n x1 (x2 + (-1)) M7))
set_option maxHeartbeats 4000000 in
theorem s_Nf_wave_L43 {γ : Gm} {κ : Kp} {post : Int32 → Mem → Prop} {kx65 : Mem → Prop} (C : Cx γ κ "NetForms" b_Nf_wave 3 1 (0, 0)) (R : Rt γ (some .int)) (hx65 : ∀ M', kx65 M' → G γ κ 3 (0, 0) (Gq γ κ (pI post)) 65 [(0, .ref (κ.1 + 0))] [] M') : ∀ (n : Nat) (x1 : Int32) (x2 : Int32) (M : Mem), q_Nf_wave_L43 kx65 post n x1 x2 M → G γ κ 3 (0, 0) (Gq γ κ (pI post)) 43 [(0, .ref (κ.1 + 0)), (1, .int x1), (2, .int x2)] [] M := by
  intro n
  induction n with
  | zero => intro x1 x2 M hq; exact hq.elim
  | succ n ih =>
    intro x1 x2 M hq
    unfold q_Nf_wave_L43 at hq
    refine G_iload_n C 2 d_Nf_wave_43 rfl rfl ?_
    refine G_iload_n C 1 d_Nf_wave_44 rfl rfl ?_
    refine G_icmp_le C (tgt := 65) d_Nf_wave_45 (by decide) (fun c => ?_) (fun c => ?_)
    · replace hq := hq.1 c
      exact G_sub [0] (by rfl) (hx65 _ hq)
    · replace hq := hq.2 c
      refine G_aload_n C 0 d_Nf_wave_48 rfl rfl ?_
      refine Gg_Nf_motion C wd_166 d_Nf_wave_49 ?_
      refine G_aload_n C 0 d_Nf_wave_52 rfl rfl ?_
      refine Gg_Nf_shape C wd_163 d_Nf_wave_53 ?_
      refine G_callV C (s_Wav_stepBack hq) v_Wav_stepBack i_Wav_stepBack z_Wav_stepBack wd_468 (by decide) rfl (k := 12) (ci := 5) (by decide) rfl rfl rfl (rest := []) (by rfl) (Nat.le_of_ble_eq_true rfl) d_Nf_wave_56 (kv_ (fun M7 hq => ?_))
      refine G_iinc C (v := _ + (-1)) (lv' := [(2, _), (0, _), (1, _)]) 2 d_Nf_wave_59 rfl rfl (by decide) rfl ?_
      refine G_goto C (tgt := 43) d_Nf_wave_62 (by decide) ?_
      exact G_sub [1, 2, 0] (by rfl) (ih _ _ _ hq)
def q_Nf_wave (a1 : Int32) (M : Mem) (post : Int32 → Mem → Prop) : Prop := (a1 = 0 → post (-2 : Int32) M) ∧ (¬ a1 = 0 → q_Nf_isWithin a1.toInt64 (100 : Int32) M (fun r2 M1 => (¬ r2 = 0 → ∃ n4, q_Nf_wave_L19 (fun x5 M6 => ∃ n8, q_Nf_wave_L43 (fun M9 => post (M9.1 12 0) M9) post n8 x5 (0 : Int32) M6) post n4 a1 (0 : Int32) M1) ∧ (r2 = 0 → post (-2 : Int32) M1)))
set_option maxHeartbeats 4000000 in
theorem s_Nf_wave {l : Launch} {κ : Kp} {a1 : Int32} {M : Mem} {post : Int32 → Mem → Prop} (hq : q_Nf_wave a1 M post) : Ct l κ y_Nf_wave b_Nf_wave 3 (some .int) 1 [.ref (κ.1 + 0), .int a1] M (pI post) := by
  refine Ct_of (by decide) (Nat.le_of_ble_eq_true rfl) (fun γ hγ C R => ?_)
  subst hγ
  unfold q_Nf_wave at hq
  show G γ κ 3 (0, 0) (Gq γ κ (pI post)) 0 [(0, .ref (κ.1 + 0)), (1, .int a1)] [] M
  refine G_iload_n C 1 d_Nf_wave_0 rfl rfl ?_
  refine G_if_eq C (tgt := 14) d_Nf_wave_1 (by decide) (fun c => ?_) (fun c => ?_)
  · replace hq := hq.1 c
    refine G_bipush C (v := -2) d_Nf_wave_14 (by decide) ?_
    exact G_iret C R d_Nf_wave_16 ⟨_, rfl, hq⟩
  · replace hq := hq.2 c
    refine G_iload_n C 1 d_Nf_wave_4 rfl rfl ?_
    refine G_i2l C d_Nf_wave_5 ?_
    refine G_bipush C (v := 100) d_Nf_wave_6 (by decide) ?_
    refine G_callS C (s_Nf_isWithin hq) v_Nf_isWithin z_Nf_isWithin wd_266 (by decide) rfl (rest := []) (by rfl) (Nat.le_of_ble_eq_true rfl) d_Nf_wave_8 (ki_ (fun r2 M1 hq => ?_))
    refine G_if_ne C (tgt := 17) d_Nf_wave_11 (by decide) (fun c => ?_) (fun c => ?_)
    · replace hq := hq.1 c
      refine G_iconst C (v := 0) d_Nf_wave_17 (by decide) ?_
      refine G_istore_n C (lv' := [(2, _), (0, _), (1, _)]) d_Nf_wave_18 rfl (by decide) rfl ?_
      obtain ⟨n4, hq⟩ := hq
      refine G_sub [1, 2, 0] (by rfl) (s_Nf_wave_L19 C R ?_ n4 _ _ _ hq)
      · intro x5 M6 hq
        refine G_iconst C (v := 0) d_Nf_wave_41 (by decide) ?_
        refine G_istore_n C (lv' := [(2, _), (0, _), (1, _)]) d_Nf_wave_42 rfl (by decide) rfl ?_
        obtain ⟨n8, hq⟩ := hq
        refine G_sub [1, 2, 0] (by rfl) (s_Nf_wave_L43 C R ?_ n8 _ _ _ hq)
        · intro M9 hq
          refine G_aload_n C 0 d_Nf_wave_65 rfl rfl ?_
          refine Gg_Nf_motion C wd_166 d_Nf_wave_66 ?_
          refine Gg_Wav_steps C wd_92 d_Nf_wave_69 ?_
          exact G_iret C R d_Nf_wave_72 ⟨_, rfl, hq⟩
    · replace hq := hq.2 c
      refine G_bipush C (v := -2) d_Nf_wave_14 (by decide) ?_
      exact G_iret C R d_Nf_wave_16 ⟨_, rfl, hq⟩
theorem d_Nf_count_0 : decode b_Nf_count 0 = .ok (.iload_n 1, 1) := by decide +kernel
theorem d_Nf_count_1 : decode b_Nf_count 1 = .ok (.ifCond .lt 8, 3) := by decide +kernel
theorem d_Nf_count_4 : decode b_Nf_count 4 = .ok (.iload_n 1, 1) := by decide +kernel
theorem d_Nf_count_5 : decode b_Nf_count 5 = .ok (.iconst 4, 1) := by decide +kernel
theorem d_Nf_count_6 : decode b_Nf_count 6 = .ok (.if_icmp .le 6, 3) := by decide +kernel
theorem d_Nf_count_9 : decode b_Nf_count 9 = .ok (.bipush (-2), 2) := by decide +kernel
theorem d_Nf_count_11 : decode b_Nf_count 11 = .ok (.ireturn, 1) := by decide +kernel
theorem d_Nf_count_12 : decode b_Nf_count 12 = .ok (.iload_n 1, 1) := by decide +kernel
theorem d_Nf_count_13 : decode b_Nf_count 13 = .ok (.iconst 2, 1) := by decide +kernel
theorem d_Nf_count_14 : decode b_Nf_count 14 = .ok (.if_icmp .gt 12, 3) := by decide +kernel
theorem d_Nf_count_17 : decode b_Nf_count 17 = .ok (.aload_n 0, 1) := by decide +kernel
theorem d_Nf_count_18 : decode b_Nf_count 18 = .ok (.getfield 10, 3) := by decide +kernel
theorem d_Nf_count_21 : decode b_Nf_count 21 = .ok (.iload_n 1, 1) := by decide +kernel
theorem d_Nf_count_22 : decode b_Nf_count 22 = .ok (.invokevirtual 119, 3) := by decide +kernel
theorem d_Nf_count_25 : decode b_Nf_count 25 = .ok (.ireturn, 1) := by decide +kernel
theorem d_Nf_count_26 : decode b_Nf_count 26 = .ok (.iload_n 1, 1) := by decide +kernel
theorem d_Nf_count_27 : decode b_Nf_count 27 = .ok (.iconst 3, 1) := by decide +kernel
theorem d_Nf_count_28 : decode b_Nf_count 28 = .ok (.if_icmp .ne 17, 3) := by decide +kernel
theorem d_Nf_count_31 : decode b_Nf_count 31 = .ok (.aload_n 0, 1) := by decide +kernel
theorem d_Nf_count_32 : decode b_Nf_count 32 = .ok (.getfield 25, 3) := by decide +kernel
theorem d_Nf_count_35 : decode b_Nf_count 35 = .ok (.aload_n 0, 1) := by decide +kernel
theorem d_Nf_count_36 : decode b_Nf_count 36 = .ok (.getfield 10, 3) := by decide +kernel
theorem d_Nf_count_39 : decode b_Nf_count 39 = .ok (.invokevirtual 211, 3) := by decide +kernel
theorem d_Nf_count_42 : decode b_Nf_count 42 = .ok (.goto 10, 3) := by decide +kernel
theorem d_Nf_count_45 : decode b_Nf_count 45 = .ok (.aload_n 0, 1) := by decide +kernel
theorem d_Nf_count_46 : decode b_Nf_count 46 = .ok (.getfield 10, 3) := by decide +kernel
theorem d_Nf_count_49 : decode b_Nf_count 49 = .ok (.invokevirtual 140, 3) := by decide +kernel
theorem d_Nf_count_52 : decode b_Nf_count 52 = .ok (.ireturn, 1) := by decide +kernel
def q_Nf_count (a1 : Int32) (M : Mem) (post : Int32 → Mem → Prop) : Prop := (a1 < 0 → post (-2 : Int32) M) ∧ (¬ a1 < 0 → (a1 ≤ (4 : Int32) → ((2 : Int32) < a1 → (¬ a1 = (3 : Int32) → q_Net_countParts M (fun r2 M1 => post r2 M1)) ∧ (a1 = (3 : Int32) → q_Wal_countThere M (fun r4 M3 => post r4 M3))) ∧ (¬ (2 : Int32) < a1 → q_Net_size a1 M (fun r6 M5 => post r6 M5))) ∧ (¬ a1 ≤ (4 : Int32) → post (-2 : Int32) M))
set_option maxHeartbeats 4000000 in
theorem s_Nf_count {l : Launch} {κ : Kp} {a1 : Int32} {M : Mem} {post : Int32 → Mem → Prop} (hq : q_Nf_count a1 M post) : Ct l κ y_Nf_count b_Nf_count 2 (some .int) 1 [.ref (κ.1 + 0), .int a1] M (pI post) := by
  refine Ct_of (by decide) (Nat.le_of_ble_eq_true rfl) (fun γ hγ C R => ?_)
  subst hγ
  unfold q_Nf_count at hq
  show G γ κ 2 (0, 0) (Gq γ κ (pI post)) 0 [(0, .ref (κ.1 + 0)), (1, .int a1)] [] M
  refine G_iload_n C 1 d_Nf_count_0 rfl rfl ?_
  refine G_if_lt C (tgt := 9) d_Nf_count_1 (by decide) (fun c => ?_) (fun c => ?_)
  · replace hq := hq.1 c
    refine G_bipush C (v := -2) d_Nf_count_9 (by decide) ?_
    exact G_iret C R d_Nf_count_11 ⟨_, rfl, hq⟩
  · replace hq := hq.2 c
    refine G_iload_n C 1 d_Nf_count_4 rfl rfl ?_
    refine G_iconst C (v := 4) d_Nf_count_5 (by decide) ?_
    refine G_icmp_le C (tgt := 12) d_Nf_count_6 (by decide) (fun c => ?_) (fun c => ?_)
    · replace hq := hq.1 c
      refine G_iload_n C 1 d_Nf_count_12 rfl rfl ?_
      refine G_iconst C (v := 2) d_Nf_count_13 (by decide) ?_
      refine G_icmp_gt C (tgt := 26) d_Nf_count_14 (by decide) (fun c => ?_) (fun c => ?_)
      · replace hq := hq.1 c
        refine G_iload_n C 1 d_Nf_count_26 rfl rfl ?_
        refine G_iconst C (v := 3) d_Nf_count_27 (by decide) ?_
        refine G_icmp_ne C (tgt := 45) d_Nf_count_28 (by decide) (fun c => ?_) (fun c => ?_)
        · replace hq := hq.1 c
          refine G_aload_n C 0 d_Nf_count_45 rfl rfl ?_
          refine Gg_Nf_shape C wd_163 d_Nf_count_46 ?_
          refine G_callV C (s_Net_countParts hq) v_Net_countParts i_Net_countParts z_Net_countParts wd_341 (by decide) rfl (k := 1) (ci := 3) (by decide) rfl rfl rfl (rest := []) (by rfl) (Nat.le_of_ble_eq_true rfl) d_Nf_count_49 (ki_ (fun r2 M1 hq => ?_))
          exact G_iret C R d_Nf_count_52 ⟨_, rfl, hq⟩
        · replace hq := hq.2 c
          refine G_aload_n C 0 d_Nf_count_31 rfl rfl ?_
          refine Gg_Nf_walls C wd_165 d_Nf_count_32 ?_
          refine G_aload_n C 0 d_Nf_count_35 rfl rfl ?_
          refine Gg_Nf_shape C wd_163 d_Nf_count_36 ?_
          refine G_callV C (s_Wal_countThere hq) v_Wal_countThere i_Wal_countThere z_Wal_countThere wd_492 (by decide) rfl (k := 9) (ci := 4) (by decide) rfl rfl rfl (rest := []) (by rfl) (Nat.le_of_ble_eq_true rfl) d_Nf_count_39 (ki_ (fun r4 M3 hq => ?_))
          refine G_goto C (tgt := 52) d_Nf_count_42 (by decide) ?_
          exact G_iret C R d_Nf_count_52 ⟨_, rfl, hq⟩
      · replace hq := hq.2 c
        refine G_aload_n C 0 d_Nf_count_17 rfl rfl ?_
        refine Gg_Nf_shape C wd_163 d_Nf_count_18 ?_
        refine G_iload_n C 1 d_Nf_count_21 rfl rfl ?_
        refine G_callV C (s_Net_size hq) v_Net_size i_Net_size z_Net_size wd_282 (by decide) rfl (k := 1) (ci := 3) (by decide) rfl rfl rfl (rest := []) (by rfl) (Nat.le_of_ble_eq_true rfl) d_Nf_count_22 (ki_ (fun r6 M5 hq => ?_))
        exact G_iret C R d_Nf_count_25 ⟨_, rfl, hq⟩
    · replace hq := hq.2 c
      refine G_bipush C (v := -2) d_Nf_count_9 (by decide) ?_
      exact G_iret C R d_Nf_count_11 ⟨_, rfl, hq⟩
theorem d_Nf_foldCorners_0 : decode b_Nf_foldCorners 0 = .ok (.lload_n 1, 1) := by decide +kernel
theorem d_Nf_foldCorners_1 : decode b_Nf_foldCorners 1 = .ok (.lstore 4, 2) := by decide +kernel
theorem d_Nf_foldCorners_3 : decode b_Nf_foldCorners 3 = .ok (.iconst 0, 1) := by decide +kernel
theorem d_Nf_foldCorners_4 : decode b_Nf_foldCorners 4 = .ok (.istore 6, 2) := by decide +kernel
theorem d_Nf_foldCorners_6 : decode b_Nf_foldCorners 6 = .ok (.iload 6, 2) := by decide +kernel
theorem d_Nf_foldCorners_8 : decode b_Nf_foldCorners 8 = .ok (.aload_n 0, 1) := by decide +kernel
theorem d_Nf_foldCorners_9 : decode b_Nf_foldCorners 9 = .ok (.getfield 10, 3) := by decide +kernel
theorem d_Nf_foldCorners_12 : decode b_Nf_foldCorners 12 = .ok (.iload_n 3, 1) := by decide +kernel
theorem d_Nf_foldCorners_13 : decode b_Nf_foldCorners 13 = .ok (.invokevirtual 119, 3) := by decide +kernel
theorem d_Nf_foldCorners_16 : decode b_Nf_foldCorners 16 = .ok (.if_icmp .ge 46, 3) := by decide +kernel
theorem d_Nf_foldCorners_19 : decode b_Nf_foldCorners 19 = .ok (.iconst 0, 1) := by decide +kernel
theorem d_Nf_foldCorners_20 : decode b_Nf_foldCorners 20 = .ok (.istore 7, 2) := by decide +kernel
theorem d_Nf_foldCorners_22 : decode b_Nf_foldCorners 22 = .ok (.iload 7, 2) := by decide +kernel
theorem d_Nf_foldCorners_24 : decode b_Nf_foldCorners 24 = .ok (.iload_n 3, 1) := by decide +kernel
theorem d_Nf_foldCorners_25 : decode b_Nf_foldCorners 25 = .ok (.if_icmp .gt 31, 3) := by decide +kernel
theorem d_Nf_foldCorners_28 : decode b_Nf_foldCorners 28 = .ok (.ldc2_w 216, 3) := by decide +kernel
theorem d_Nf_foldCorners_31 : decode b_Nf_foldCorners 31 = .ok (.lload 4, 2) := by decide +kernel
theorem d_Nf_foldCorners_33 : decode b_Nf_foldCorners 33 = .ok (.lmul, 1) := by decide +kernel
theorem d_Nf_foldCorners_34 : decode b_Nf_foldCorners 34 = .ok (.aload_n 0, 1) := by decide +kernel
theorem d_Nf_foldCorners_35 : decode b_Nf_foldCorners 35 = .ok (.getfield 10, 3) := by decide +kernel
theorem d_Nf_foldCorners_38 : decode b_Nf_foldCorners 38 = .ok (.iload_n 3, 1) := by decide +kernel
theorem d_Nf_foldCorners_39 : decode b_Nf_foldCorners 39 = .ok (.iload 6, 2) := by decide +kernel
theorem d_Nf_foldCorners_41 : decode b_Nf_foldCorners 41 = .ok (.iload 7, 2) := by decide +kernel
theorem d_Nf_foldCorners_43 : decode b_Nf_foldCorners 43 = .ok (.invokevirtual 88, 3) := by decide +kernel
theorem d_Nf_foldCorners_46 : decode b_Nf_foldCorners 46 = .ok (.i2l, 1) := by decide +kernel
theorem d_Nf_foldCorners_47 : decode b_Nf_foldCorners 47 = .ok (.ladd, 1) := by decide +kernel
theorem d_Nf_foldCorners_48 : decode b_Nf_foldCorners 48 = .ok (.lstore 4, 2) := by decide +kernel
theorem d_Nf_foldCorners_50 : decode b_Nf_foldCorners 50 = .ok (.iinc 7 1, 3) := by decide +kernel
theorem d_Nf_foldCorners_53 : decode b_Nf_foldCorners 53 = .ok (.goto (-31), 3) := by decide +kernel
theorem d_Nf_foldCorners_56 : decode b_Nf_foldCorners 56 = .ok (.iinc 6 1, 3) := by decide +kernel
theorem d_Nf_foldCorners_59 : decode b_Nf_foldCorners 59 = .ok (.goto (-53), 3) := by decide +kernel
theorem d_Nf_foldCorners_62 : decode b_Nf_foldCorners 62 = .ok (.lload 4, 2) := by decide +kernel
theorem d_Nf_foldCorners_64 : decode b_Nf_foldCorners 64 = .ok (.lreturn, 1) := by decide +kernel
def q_Nf_foldCorners_L22 (kx56 : Int32 → Int64 → Int32 → Mem → Prop) (post : Int64 → Mem → Prop) : Nat → Int32 → Int64 → Int32 → Int32 → Mem → Prop
  | 0, _, _, _, _, _ => False
  | n + 1, x3, x4, x6, x7, M => (x3 < x7 → kx56 x3 x4 x6 M) ∧ (¬ x3 < x7 → q_Net_pointOf x3 x6 x7 M (fun r4 M3 => q_Nf_foldCorners_L22 kx56 post n x3 (((31 : Int64) * x4) + r4.toInt64) x6 (x7 + 1) M3))
set_option maxHeartbeats 4000000 in
theorem s_Nf_foldCorners_L22 {γ : Gm} {κ : Kp} {post : Int64 → Mem → Prop} {kx56 : Int32 → Int64 → Int32 → Mem → Prop} (C : Cx γ κ "NetForms" b_Nf_foldCorners 8 1 (0, 0)) (R : Rt γ (some .long)) (hx56 : ∀ y1 y2 y3 M', kx56 y1 y2 y3 M' → G γ κ 8 (0, 0) (Gq γ κ (pJ post)) 56 [(0, .ref (κ.1 + 0)), (3, .int y1), (4, .long y2), (6, .int y3)] [] M') : ∀ (n : Nat) (x3 : Int32) (x4 : Int64) (x6 : Int32) (x7 : Int32) (M : Mem), q_Nf_foldCorners_L22 kx56 post n x3 x4 x6 x7 M → G γ κ 8 (0, 0) (Gq γ κ (pJ post)) 22 [(0, .ref (κ.1 + 0)), (3, .int x3), (4, .long x4), (6, .int x6), (7, .int x7)] [] M := by
  intro n
  induction n with
  | zero => intro x3 x4 x6 x7 M hq; exact hq.elim
  | succ n ih =>
    intro x3 x4 x6 x7 M hq
    unfold q_Nf_foldCorners_L22 at hq
    refine G_iload C 4 d_Nf_foldCorners_22 rfl ?_
    refine G_iload_n C 1 d_Nf_foldCorners_24 rfl rfl ?_
    refine G_icmp_gt C (tgt := 56) d_Nf_foldCorners_25 (by decide) (fun c => ?_) (fun c => ?_)
    · replace hq := hq.1 c
      exact G_sub [0, 1, 2, 3] (by rfl) (hx56 _ _ _ _ hq)
    · replace hq := hq.2 c
      refine G_ldc2 C (v := 31) wd_501 d_Nf_foldCorners_28 ?_
      refine G_lload C 2 d_Nf_foldCorners_31 rfl ?_
      refine G_lmul C d_Nf_foldCorners_33 ?_
      refine G_aload_n C 0 d_Nf_foldCorners_34 rfl rfl ?_
      refine Gg_Nf_shape C wd_163 d_Nf_foldCorners_35 ?_
      refine G_iload_n C 1 d_Nf_foldCorners_38 rfl rfl ?_
      refine G_iload C 3 d_Nf_foldCorners_39 rfl ?_
      refine G_iload C 4 d_Nf_foldCorners_41 rfl ?_
      refine G_callV C (s_Net_pointOf hq) v_Net_pointOf i_Net_pointOf z_Net_pointOf wd_249 (by decide) rfl (k := 1) (ci := 3) (by decide) rfl rfl rfl (rest := [_]) (by rfl) (Nat.le_of_ble_eq_true rfl) d_Nf_foldCorners_43 (ki_ (fun r4 M3 hq => ?_))
      refine G_i2l C d_Nf_foldCorners_46 ?_
      refine G_ladd C d_Nf_foldCorners_47 ?_
      refine G_lstore C (lv' := [(4, _), (0, _), (3, _), (6, _), (7, _)]) d_Nf_foldCorners_48 (by decide) rfl ?_
      refine G_iinc C (v := _ + 1) (lv' := [(7, _), (4, _), (0, _), (3, _), (6, _)]) 4 d_Nf_foldCorners_50 rfl rfl (by decide) rfl ?_
      refine G_goto C (tgt := 22) d_Nf_foldCorners_53 (by decide) ?_
      exact G_sub [2, 3, 1, 4, 0] (by rfl) (ih _ _ _ _ _ hq)
def q_Nf_foldCorners_L6 (kx62 : Int64 → Mem → Prop) (post : Int64 → Mem → Prop) : Nat → Int32 → Int64 → Int32 → Mem → Prop
  | 0, _, _, _, _ => False
  | n + 1, x3, x4, x6, M => q_Net_size x3 M (fun r2 M1 => (r2 ≤ x6 → kx62 x4 M1) ∧ (¬ r2 ≤ x6 → ∃ n5, q_Nf_foldCorners_L22 (fun x6 x7 x8 M9 => q_Nf_foldCorners_L6 kx62 post n x6 x7 (x8 + 1) M9) post n5 x3 x4 x6 (0 : Int32) M1))
set_option maxHeartbeats 4000000 in
theorem s_Nf_foldCorners_L6 {γ : Gm} {κ : Kp} {post : Int64 → Mem → Prop} {kx62 : Int64 → Mem → Prop} (C : Cx γ κ "NetForms" b_Nf_foldCorners 8 1 (0, 0)) (R : Rt γ (some .long)) (hx62 : ∀ y0 M', kx62 y0 M' → G γ κ 8 (0, 0) (Gq γ κ (pJ post)) 62 [(4, .long y0)] [] M') : ∀ (n : Nat) (x3 : Int32) (x4 : Int64) (x6 : Int32) (M : Mem), q_Nf_foldCorners_L6 kx62 post n x3 x4 x6 M → G γ κ 8 (0, 0) (Gq γ κ (pJ post)) 6 [(0, .ref (κ.1 + 0)), (3, .int x3), (4, .long x4), (6, .int x6)] [] M := by
  intro n
  induction n with
  | zero => intro x3 x4 x6 M hq; exact hq.elim
  | succ n ih =>
    intro x3 x4 x6 M hq
    unfold q_Nf_foldCorners_L6 at hq
    refine G_iload C 3 d_Nf_foldCorners_6 rfl ?_
    refine G_aload_n C 0 d_Nf_foldCorners_8 rfl rfl ?_
    refine Gg_Nf_shape C wd_163 d_Nf_foldCorners_9 ?_
    refine G_iload_n C 1 d_Nf_foldCorners_12 rfl rfl ?_
    refine G_callV C (s_Net_size hq) v_Net_size i_Net_size z_Net_size wd_282 (by decide) rfl (k := 1) (ci := 3) (by decide) rfl rfl rfl (rest := [_]) (by rfl) (Nat.le_of_ble_eq_true rfl) d_Nf_foldCorners_13 (ki_ (fun r2 M1 hq => ?_))
    refine G_icmp_ge C (tgt := 62) d_Nf_foldCorners_16 (by decide) (fun c => ?_) (fun c => ?_)
    · replace hq := hq.1 c
      exact G_sub [2] (by rfl) (hx62 _ _ hq)
    · replace hq := hq.2 c
      refine G_iconst C (v := 0) d_Nf_foldCorners_19 (by decide) ?_
      refine G_istore C (lv' := [(7, _), (0, _), (3, _), (4, _), (6, _)]) d_Nf_foldCorners_20 (by decide) rfl ?_
      obtain ⟨n5, hq⟩ := hq
      refine G_sub [1, 2, 3, 4, 0] (by rfl) (s_Nf_foldCorners_L22 C R ?_ n5 _ _ _ _ _ hq)
      · intro x6 x7 x8 M9 hq
        refine G_iinc C (v := _ + 1) (lv' := [(6, _), (0, _), (3, _), (4, _)]) 3 d_Nf_foldCorners_56 rfl rfl (by decide) rfl ?_
        refine G_goto C (tgt := 6) d_Nf_foldCorners_59 (by decide) ?_
        exact G_sub [1, 2, 3, 0] (by rfl) (ih _ _ _ _ hq)
def q_Nf_foldCorners (a1 : Int64) (a3 : Int32) (M : Mem) (post : Int64 → Mem → Prop) : Prop := ∃ n10, q_Nf_foldCorners_L6 (fun x11 M12 => post x11 M12) post n10 a3 a1 (0 : Int32) M
set_option maxHeartbeats 4000000 in
theorem s_Nf_foldCorners {l : Launch} {κ : Kp} {a1 : Int64} {a3 : Int32} {M : Mem} {post : Int64 → Mem → Prop} (hq : q_Nf_foldCorners a1 a3 M post) : Ct l κ y_Nf_foldCorners b_Nf_foldCorners 8 (some .long) 1 [.ref (κ.1 + 0), .long a1, .int a3] M (pJ post) := by
  refine Ct_of (by decide) (Nat.le_of_ble_eq_true rfl) (fun γ hγ C R => ?_)
  subst hγ
  unfold q_Nf_foldCorners at hq
  show G γ κ 8 (0, 0) (Gq γ κ (pJ post)) 0 [(0, .ref (κ.1 + 0)), (1, .long a1), (3, .int a3)] [] M
  refine G_lload_n C 1 d_Nf_foldCorners_0 rfl rfl ?_
  refine G_lstore C (lv' := [(4, _), (0, _), (1, _), (3, _)]) d_Nf_foldCorners_1 (by decide) rfl ?_
  refine G_iconst C (v := 0) d_Nf_foldCorners_3 (by decide) ?_
  refine G_istore C (lv' := [(6, _), (4, _), (0, _), (1, _), (3, _)]) d_Nf_foldCorners_4 (by decide) rfl ?_
  obtain ⟨n10, hq⟩ := hq
  refine G_sub [2, 4, 1, 0] (by rfl) (s_Nf_foldCorners_L6 C R ?_ n10 _ _ _ _ hq)
  · intro x11 M12 hq
    refine G_lload C 0 d_Nf_foldCorners_62 rfl ?_
    exact G_lret C R d_Nf_foldCorners_64 ⟨_, rfl, hq⟩
theorem d_Nf_foldForms_0 : decode b_Nf_foldForms 0 = .ok (.lload_n 1, 1) := by decide +kernel
theorem d_Nf_foldForms_1 : decode b_Nf_foldForms 1 = .ok (.lstore_n 3, 1) := by decide +kernel
theorem d_Nf_foldForms_2 : decode b_Nf_foldForms 2 = .ok (.iconst 0, 1) := by decide +kernel
theorem d_Nf_foldForms_3 : decode b_Nf_foldForms 3 = .ok (.istore 5, 2) := by decide +kernel
theorem d_Nf_foldForms_5 : decode b_Nf_foldForms 5 = .ok (.iload 5, 2) := by decide +kernel
theorem d_Nf_foldForms_7 : decode b_Nf_foldForms 7 = .ok (.bipush 12, 2) := by decide +kernel
theorem d_Nf_foldForms_9 : decode b_Nf_foldForms 9 = .ok (.if_icmp .ge 73, 3) := by decide +kernel
theorem d_Nf_foldForms_12 : decode b_Nf_foldForms 12 = .ok (.aload_n 0, 1) := by decide +kernel
theorem d_Nf_foldForms_13 : decode b_Nf_foldForms 13 = .ok (.getfield 18, 3) := by decide +kernel
theorem d_Nf_foldForms_16 : decode b_Nf_foldForms 16 = .ok (.iload 5, 2) := by decide +kernel
theorem d_Nf_foldForms_18 : decode b_Nf_foldForms 18 = .ok (.aaload, 1) := by decide +kernel
theorem d_Nf_foldForms_19 : decode b_Nf_foldForms 19 = .ok (.astore 6, 2) := by decide +kernel
theorem d_Nf_foldForms_21 : decode b_Nf_foldForms 21 = .ok (.ldc2_w 216, 3) := by decide +kernel
theorem d_Nf_foldForms_24 : decode b_Nf_foldForms 24 = .ok (.lload_n 3, 1) := by decide +kernel
theorem d_Nf_foldForms_25 : decode b_Nf_foldForms 25 = .ok (.lmul, 1) := by decide +kernel
theorem d_Nf_foldForms_26 : decode b_Nf_foldForms 26 = .ok (.aload 6, 2) := by decide +kernel
theorem d_Nf_foldForms_28 : decode b_Nf_foldForms 28 = .ok (.getfield 95, 3) := by decide +kernel
theorem d_Nf_foldForms_31 : decode b_Nf_foldForms 31 = .ok (.i2l, 1) := by decide +kernel
theorem d_Nf_foldForms_32 : decode b_Nf_foldForms 32 = .ok (.ladd, 1) := by decide +kernel
theorem d_Nf_foldForms_33 : decode b_Nf_foldForms 33 = .ok (.lstore_n 3, 1) := by decide +kernel
theorem d_Nf_foldForms_34 : decode b_Nf_foldForms 34 = .ok (.iconst 0, 1) := by decide +kernel
theorem d_Nf_foldForms_35 : decode b_Nf_foldForms 35 = .ok (.istore 7, 2) := by decide +kernel
theorem d_Nf_foldForms_37 : decode b_Nf_foldForms 37 = .ok (.iload 7, 2) := by decide +kernel
theorem d_Nf_foldForms_39 : decode b_Nf_foldForms 39 = .ok (.aload_n 0, 1) := by decide +kernel
theorem d_Nf_foldForms_40 : decode b_Nf_foldForms 40 = .ok (.getfield 10, 3) := by decide +kernel
theorem d_Nf_foldForms_43 : decode b_Nf_foldForms 43 = .ok (.aload 6, 2) := by decide +kernel
theorem d_Nf_foldForms_45 : decode b_Nf_foldForms 45 = .ok (.getfield 95, 3) := by decide +kernel
theorem d_Nf_foldForms_48 : decode b_Nf_foldForms 48 = .ok (.invokevirtual 119, 3) := by decide +kernel
theorem d_Nf_foldForms_51 : decode b_Nf_foldForms 51 = .ok (.if_icmp .ge 25, 3) := by decide +kernel
theorem d_Nf_foldForms_54 : decode b_Nf_foldForms 54 = .ok (.ldc2_w 216, 3) := by decide +kernel
theorem d_Nf_foldForms_57 : decode b_Nf_foldForms 57 = .ok (.lload_n 3, 1) := by decide +kernel
theorem d_Nf_foldForms_58 : decode b_Nf_foldForms 58 = .ok (.lmul, 1) := by decide +kernel
theorem d_Nf_foldForms_59 : decode b_Nf_foldForms 59 = .ok (.aload 6, 2) := by decide +kernel
theorem d_Nf_foldForms_61 : decode b_Nf_foldForms 61 = .ok (.getfield 104, 3) := by decide +kernel
theorem d_Nf_foldForms_64 : decode b_Nf_foldForms 64 = .ok (.iload 7, 2) := by decide +kernel
theorem d_Nf_foldForms_66 : decode b_Nf_foldForms 66 = .ok (.iaload, 1) := by decide +kernel
theorem d_Nf_foldForms_67 : decode b_Nf_foldForms 67 = .ok (.i2l, 1) := by decide +kernel
theorem d_Nf_foldForms_68 : decode b_Nf_foldForms 68 = .ok (.ladd, 1) := by decide +kernel
theorem d_Nf_foldForms_69 : decode b_Nf_foldForms 69 = .ok (.lstore_n 3, 1) := by decide +kernel
theorem d_Nf_foldForms_70 : decode b_Nf_foldForms 70 = .ok (.iinc 7 1, 3) := by decide +kernel
theorem d_Nf_foldForms_73 : decode b_Nf_foldForms 73 = .ok (.goto (-36), 3) := by decide +kernel
theorem d_Nf_foldForms_76 : decode b_Nf_foldForms 76 = .ok (.iinc 5 1, 3) := by decide +kernel
theorem d_Nf_foldForms_79 : decode b_Nf_foldForms 79 = .ok (.goto (-74), 3) := by decide +kernel
theorem d_Nf_foldForms_82 : decode b_Nf_foldForms 82 = .ok (.lload_n 3, 1) := by decide +kernel
theorem d_Nf_foldForms_83 : decode b_Nf_foldForms 83 = .ok (.lreturn, 1) := by decide +kernel
def q_Nf_foldForms_L37 (g6 : Nat) (kx76 : Int64 → Int32 → Mem → Prop) (post : Int64 → Mem → Prop) : Nat → Int64 → Int32 → Int32 → Mem → Prop
  | 0, _, _, _, _ => False
  | n + 1, x3, x5, x7, M => q_Net_size (M.1 (32 + 2 * g6) 0) M (fun r3 M2 => (r3 ≤ x7 → kx76 x3 x5 M2) ∧ (¬ r3 ≤ x7 → vp_in x7 12 ∧ (∀ v4, v4 = (((31 : Int64) * x3) + ((M2.1 (33 + 2 * g6) x7.toNatClampNeg).toInt64)) → q_Nf_foldForms_L37 g6 kx76 post n v4 x5 (x7 + 1) M2)))
set_option maxHeartbeats 4000000 in
theorem s_Nf_foldForms_L37 {γ : Gm} {κ : Kp} {post : Int64 → Mem → Prop} {g6 : Nat} {kx76 : Int64 → Int32 → Mem → Prop} (C : Cx γ κ "NetForms" b_Nf_foldForms 8 1 (0, 0)) (R : Rt γ (some .long)) (h_g6 : g6 < 12) (hx76 : ∀ y1 y2 M', kx76 y1 y2 M' → G γ κ 8 (0, 0) (Gq γ κ (pJ post)) 76 [(0, .ref (κ.1 + 0)), (3, .long y1), (5, .int y2)] [] M') : ∀ (n : Nat) (x3 : Int64) (x5 : Int32) (x7 : Int32) (M : Mem), q_Nf_foldForms_L37 g6 kx76 post n x3 x5 x7 M → G γ κ 8 (0, 0) (Gq γ κ (pJ post)) 37 [(0, .ref (κ.1 + 0)), (3, .long x3), (5, .int x5), (6, .ref (κ.1 + (32 + 2 * g6))), (7, .int x7)] [] M := by
  intro n
  induction n with
  | zero => intro x3 x5 x7 M hq; exact hq.elim
  | succ n ih =>
    intro x3 x5 x7 M hq
    unfold q_Nf_foldForms_L37 at hq
    refine G_iload C 4 d_Nf_foldForms_37 rfl ?_
    refine G_aload_n C 0 d_Nf_foldForms_39 rfl rfl ?_
    refine Gg_Nf_shape C wd_163 d_Nf_foldForms_40 ?_
    refine G_aload C 3 d_Nf_foldForms_43 rfl ?_
    refine Gg_Frm_degree C h_g6 wd_150 d_Nf_foldForms_45 ?_
    refine G_callV C (s_Net_size hq) v_Net_size i_Net_size z_Net_size wd_282 (by decide) rfl (k := 1) (ci := 3) (by decide) rfl rfl rfl (rest := [_]) (by rfl) (Nat.le_of_ble_eq_true rfl) d_Nf_foldForms_48 (ki_ (fun r3 M2 hq => ?_))
    refine G_icmp_ge C (tgt := 76) d_Nf_foldForms_51 (by decide) (fun c => ?_) (fun c => ?_)
    · replace hq := hq.1 c
      exact G_sub [0, 1, 2] (by rfl) (hx76 _ _ _ hq)
    · replace hq := hq.2 c
      refine G_ldc2 C (v := 31) wd_501 d_Nf_foldForms_54 ?_
      refine G_lload_n C 1 d_Nf_foldForms_57 rfl rfl ?_
      refine G_lmul C d_Nf_foldForms_58 ?_
      refine G_aload C 3 d_Nf_foldForms_59 rfl ?_
      refine Gg_Frm_numbers C h_g6 wd_153 d_Nf_foldForms_61 ?_
      refine G_iload C 4 d_Nf_foldForms_64 rfl ?_
      refine G_iaload C (by have := h_g6; omega) (sh_formA κ h_g6) hq.1 d_Nf_foldForms_66 ?_
      replace hq := hq.2
      refine G_i2l C d_Nf_foldForms_67 ?_
      refine G_ladd C d_Nf_foldForms_68 ?_
      replace hq := hq _ rfl
      refine G_lstore_n C (lv' := [(3, _), (0, _), (5, _), (6, _), (7, _)]) d_Nf_foldForms_69 rfl (by decide) rfl ?_
      refine G_iinc C (v := _ + 1) (lv' := [(7, _), (3, _), (0, _), (5, _), (6, _)]) 4 d_Nf_foldForms_70 rfl rfl (by decide) rfl ?_
      refine G_goto C (tgt := 37) d_Nf_foldForms_73 (by decide) ?_
      exact G_sub [2, 1, 3, 4, 0] (by rfl) (ih _ _ _ _ hq)
def q_Nf_foldForms_L5 (kx82 : Int64 → Mem → Prop) (post : Int64 → Mem → Prop) : Nat → Int64 → Int32 → Mem → Prop
  | 0, _, _, _ => False
  | n + 1, x3, x5, M => ((12 : Int32) ≤ x5 → kx82 x3 M) ∧ (¬ (12 : Int32) ≤ x5 → vp_in x5 12 ∧ (∃ n5, q_Nf_foldForms_L37 x5.toNatClampNeg (fun x6 x7 M8 => q_Nf_foldForms_L5 kx82 post n x6 (x7 + 1) M8) post n5 (((31 : Int64) * x3) + ((M.1 (32 + 2 * x5.toNatClampNeg) 0).toInt64)) x5 (0 : Int32) M))
set_option maxHeartbeats 4000000 in
theorem s_Nf_foldForms_L5 {γ : Gm} {κ : Kp} {post : Int64 → Mem → Prop} {kx82 : Int64 → Mem → Prop} (C : Cx γ κ "NetForms" b_Nf_foldForms 8 1 (0, 0)) (R : Rt γ (some .long)) (hx82 : ∀ y0 M', kx82 y0 M' → G γ κ 8 (0, 0) (Gq γ κ (pJ post)) 82 [(3, .long y0)] [] M') : ∀ (n : Nat) (x3 : Int64) (x5 : Int32) (M : Mem), q_Nf_foldForms_L5 kx82 post n x3 x5 M → G γ κ 8 (0, 0) (Gq γ κ (pJ post)) 5 [(0, .ref (κ.1 + 0)), (3, .long x3), (5, .int x5)] [] M := by
  intro n
  induction n with
  | zero => intro x3 x5 M hq; exact hq.elim
  | succ n ih =>
    intro x3 x5 M hq
    unfold q_Nf_foldForms_L5 at hq
    refine G_iload C 2 d_Nf_foldForms_5 rfl ?_
    refine G_bipush C (v := 12) d_Nf_foldForms_7 (by decide) ?_
    refine G_icmp_ge C (tgt := 82) d_Nf_foldForms_9 (by decide) (fun c => ?_) (fun c => ?_)
    · replace hq := hq.1 c
      exact G_sub [1] (by rfl) (hx82 _ _ hq)
    · replace hq := hq.2 c
      refine G_aload_n C 0 d_Nf_foldForms_12 rfl rfl ?_
      refine Gg_Nf_forms C wd_164 d_Nf_foldForms_13 ?_
      refine G_iload C 2 d_Nf_foldForms_16 rfl ?_
      have hr1 := hq.1
      replace hq := hq.2
      refine G_aaF C hr1 d_Nf_foldForms_18 ?_
      refine G_astore C (lv' := [(6, _), (0, _), (3, _), (5, _)]) d_Nf_foldForms_19 (by decide) rfl ?_
      refine G_ldc2 C (v := 31) wd_501 d_Nf_foldForms_21 ?_
      refine G_lload_n C 2 d_Nf_foldForms_24 rfl rfl ?_
      refine G_lmul C d_Nf_foldForms_25 ?_
      refine G_aload C 0 d_Nf_foldForms_26 rfl ?_
      refine Gg_Frm_degree C (vp_lt hr1) wd_150 d_Nf_foldForms_28 ?_
      refine G_i2l C d_Nf_foldForms_31 ?_
      refine G_ladd C d_Nf_foldForms_32 ?_
      refine G_lstore_n C (lv' := [(3, _), (6, _), (0, _), (5, _)]) d_Nf_foldForms_33 rfl (by decide) rfl ?_
      refine G_iconst C (v := 0) d_Nf_foldForms_34 (by decide) ?_
      refine G_istore C (lv' := [(7, _), (3, _), (6, _), (0, _), (5, _)]) d_Nf_foldForms_35 (by decide) rfl ?_
      obtain ⟨n5, hq⟩ := hq
      refine G_sub [3, 1, 4, 2, 0] (by rfl) (s_Nf_foldForms_L37 C R (vp_lt hr1) ?_ n5 _ _ _ _ hq)
      · intro x6 x7 M8 hq
        refine G_iinc C (v := _ + 1) (lv' := [(5, _), (0, _), (3, _)]) 2 d_Nf_foldForms_76 rfl rfl (by decide) rfl ?_
        refine G_goto C (tgt := 5) d_Nf_foldForms_79 (by decide) ?_
        exact G_sub [1, 2, 0] (by rfl) (ih _ _ _ hq)
def q_Nf_foldForms (a1 : Int64) (M : Mem) (post : Int64 → Mem → Prop) : Prop := ∃ n9, q_Nf_foldForms_L5 (fun x10 M11 => post x10 M11) post n9 a1 (0 : Int32) M
set_option maxHeartbeats 4000000 in
theorem s_Nf_foldForms {l : Launch} {κ : Kp} {a1 : Int64} {M : Mem} {post : Int64 → Mem → Prop} (hq : q_Nf_foldForms a1 M post) : Ct l κ y_Nf_foldForms b_Nf_foldForms 8 (some .long) 1 [.ref (κ.1 + 0), .long a1] M (pJ post) := by
  refine Ct_of (by decide) (Nat.le_of_ble_eq_true rfl) (fun γ hγ C R => ?_)
  subst hγ
  unfold q_Nf_foldForms at hq
  show G γ κ 8 (0, 0) (Gq γ κ (pJ post)) 0 [(0, .ref (κ.1 + 0)), (1, .long a1)] [] M
  refine G_lload_n C 1 d_Nf_foldForms_0 rfl rfl ?_
  refine G_lstore_n C (lv' := [(3, _), (0, _), (1, _)]) d_Nf_foldForms_1 rfl (by decide) rfl ?_
  refine G_iconst C (v := 0) d_Nf_foldForms_2 (by decide) ?_
  refine G_istore C (lv' := [(5, _), (3, _), (0, _), (1, _)]) d_Nf_foldForms_3 (by decide) rfl ?_
  obtain ⟨n9, hq⟩ := hq
  refine G_sub [2, 1, 0] (by rfl) (s_Nf_foldForms_L5 C R ?_ n9 _ _ _ hq)
  · intro x10 M11 hq
    refine G_lload_n C 0 d_Nf_foldForms_82 rfl rfl ?_
    exact G_lret C R d_Nf_foldForms_83 ⟨_, rfl, hq⟩
theorem d_Mo_net_0 : decode b_Mo_net 0 = .ok (.iload_n 1, 1) := by decide +kernel
theorem d_Mo_net_1 : decode b_Mo_net 1 = .ok (.i2l, 1) := by decide +kernel
theorem d_Mo_net_2 : decode b_Mo_net 2 = .ok (.lconst 1, 1) := by decide +kernel
theorem d_Mo_net_3 : decode b_Mo_net 3 = .ok (.ldc2_w 73, 3) := by decide +kernel
theorem d_Mo_net_6 : decode b_Mo_net 6 = .ok (.invokestatic 75, 3) := by decide +kernel
theorem d_Mo_net_9 : decode b_Mo_net 9 = .ok (.ifCond .ne 6, 3) := by decide +kernel
theorem d_Mo_net_12 : decode b_Mo_net 12 = .ok (.bipush (-2), 2) := by decide +kernel
theorem d_Mo_net_14 : decode b_Mo_net 14 = .ok (.ireturn, 1) := by decide +kernel
theorem d_Mo_net_15 : decode b_Mo_net 15 = .ok (.aload_n 0, 1) := by decide +kernel
theorem d_Mo_net_16 : decode b_Mo_net 16 = .ok (.iload_n 1, 1) := by decide +kernel
theorem d_Mo_net_17 : decode b_Mo_net 17 = .ok (.putfield 7, 3) := by decide +kernel
theorem d_Mo_net_20 : decode b_Mo_net 20 = .ok (.aload_n 0, 1) := by decide +kernel
theorem d_Mo_net_21 : decode b_Mo_net 21 = .ok (.iconst 0, 1) := by decide +kernel
theorem d_Mo_net_22 : decode b_Mo_net 22 = .ok (.putfield 79, 3) := by decide +kernel
theorem d_Mo_net_25 : decode b_Mo_net 25 = .ok (.aload_n 0, 1) := by decide +kernel
theorem d_Mo_net_26 : decode b_Mo_net 26 = .ok (.iconst 0, 1) := by decide +kernel
theorem d_Mo_net_27 : decode b_Mo_net 27 = .ok (.putfield 82, 3) := by decide +kernel
theorem d_Mo_net_30 : decode b_Mo_net 30 = .ok (.aload_n 0, 1) := by decide +kernel
theorem d_Mo_net_31 : decode b_Mo_net 31 = .ok (.iconst 0, 1) := by decide +kernel
theorem d_Mo_net_32 : decode b_Mo_net 32 = .ok (.putfield 85, 3) := by decide +kernel
theorem d_Mo_net_35 : decode b_Mo_net 35 = .ok (.iconst 0, 1) := by decide +kernel
theorem d_Mo_net_36 : decode b_Mo_net 36 = .ok (.istore_n 2, 1) := by decide +kernel
theorem d_Mo_net_37 : decode b_Mo_net 37 = .ok (.iload_n 2, 1) := by decide +kernel
theorem d_Mo_net_38 : decode b_Mo_net 38 = .ok (.bipush 12, 2) := by decide +kernel
theorem d_Mo_net_40 : decode b_Mo_net 40 = .ok (.if_icmp .ge 15, 3) := by decide +kernel
theorem d_Mo_net_43 : decode b_Mo_net 43 = .ok (.aload_n 0, 1) := by decide +kernel
theorem d_Mo_net_44 : decode b_Mo_net 44 = .ok (.iload_n 2, 1) := by decide +kernel
theorem d_Mo_net_45 : decode b_Mo_net 45 = .ok (.iconst 0, 1) := by decide +kernel
theorem d_Mo_net_46 : decode b_Mo_net 46 = .ok (.invokevirtual 88, 3) := by decide +kernel
theorem d_Mo_net_49 : decode b_Mo_net 49 = .ok (.iinc 2 1, 3) := by decide +kernel
theorem d_Mo_net_52 : decode b_Mo_net 52 = .ok (.goto (-15), 3) := by decide +kernel
theorem d_Mo_net_55 : decode b_Mo_net 55 = .ok (.iconst 0, 1) := by decide +kernel
theorem d_Mo_net_56 : decode b_Mo_net 56 = .ok (.istore_n 2, 1) := by decide +kernel
theorem d_Mo_net_57 : decode b_Mo_net 57 = .ok (.iload_n 2, 1) := by decide +kernel
theorem d_Mo_net_58 : decode b_Mo_net 58 = .ok (.bipush 12, 2) := by decide +kernel
theorem d_Mo_net_60 : decode b_Mo_net 60 = .ok (.if_icmp .ge 16, 3) := by decide +kernel
theorem d_Mo_net_63 : decode b_Mo_net 63 = .ok (.aload_n 0, 1) := by decide +kernel
theorem d_Mo_net_64 : decode b_Mo_net 64 = .ok (.getfield 46, 3) := by decide +kernel
theorem d_Mo_net_67 : decode b_Mo_net 67 = .ok (.iload_n 2, 1) := by decide +kernel
theorem d_Mo_net_68 : decode b_Mo_net 68 = .ok (.lconst 0, 1) := by decide +kernel
theorem d_Mo_net_69 : decode b_Mo_net 69 = .ok (.lastore, 1) := by decide +kernel
theorem d_Mo_net_70 : decode b_Mo_net 70 = .ok (.iinc 2 1, 3) := by decide +kernel
theorem d_Mo_net_73 : decode b_Mo_net 73 = .ok (.goto (-16), 3) := by decide +kernel
theorem d_Mo_net_76 : decode b_Mo_net 76 = .ok (.iconst 0, 1) := by decide +kernel
theorem d_Mo_net_77 : decode b_Mo_net 77 = .ok (.istore_n 2, 1) := by decide +kernel
theorem d_Mo_net_78 : decode b_Mo_net 78 = .ok (.iload_n 2, 1) := by decide +kernel
theorem d_Mo_net_79 : decode b_Mo_net 79 = .ok (.bipush 6, 2) := by decide +kernel
theorem d_Mo_net_81 : decode b_Mo_net 81 = .ok (.if_icmp .ge 23, 3) := by decide +kernel
theorem d_Mo_net_84 : decode b_Mo_net 84 = .ok (.aload_n 0, 1) := by decide +kernel
theorem d_Mo_net_85 : decode b_Mo_net 85 = .ok (.getfield 35, 3) := by decide +kernel
theorem d_Mo_net_88 : decode b_Mo_net 88 = .ok (.iload_n 2, 1) := by decide +kernel
theorem d_Mo_net_89 : decode b_Mo_net 89 = .ok (.iconst 0, 1) := by decide +kernel
theorem d_Mo_net_90 : decode b_Mo_net 90 = .ok (.bastore, 1) := by decide +kernel
theorem d_Mo_net_91 : decode b_Mo_net 91 = .ok (.aload_n 0, 1) := by decide +kernel
theorem d_Mo_net_92 : decode b_Mo_net 92 = .ok (.getfield 42, 3) := by decide +kernel
theorem d_Mo_net_95 : decode b_Mo_net 95 = .ok (.iload_n 2, 1) := by decide +kernel
theorem d_Mo_net_96 : decode b_Mo_net 96 = .ok (.lconst 0, 1) := by decide +kernel
theorem d_Mo_net_97 : decode b_Mo_net 97 = .ok (.lastore, 1) := by decide +kernel
theorem d_Mo_net_98 : decode b_Mo_net 98 = .ok (.iinc 2 1, 3) := by decide +kernel
theorem d_Mo_net_101 : decode b_Mo_net 101 = .ok (.goto (-23), 3) := by decide +kernel
theorem d_Mo_net_104 : decode b_Mo_net 104 = .ok (.iconst 1, 1) := by decide +kernel
theorem d_Mo_net_105 : decode b_Mo_net 105 = .ok (.ireturn, 1) := by decide +kernel
def q_Mo_net_L37 (kx55 : Mem → Prop) (post : Int32 → Mem → Prop) : Nat → Int32 → Mem → Prop
  | 0, _, _ => False
  | n + 1, x2, M => ((12 : Int32) ≤ x2 → kx55 M) ∧ (¬ (12 : Int32) ≤ x2 → q_Mo_clears x2 (0 : Int32) M (fun M7 => q_Mo_net_L37 kx55 post n (x2 + 1) M7))
set_option maxHeartbeats 4000000 in
theorem s_Mo_net_L37 {γ : Gm} {κ : Kp} {post : Int32 → Mem → Prop} {kx55 : Mem → Prop} (C : Cx γ κ "NetFormsModel" b_Mo_net 3 1 (0, 0)) (R : Rt γ (some .int)) (hx55 : ∀ M', kx55 M' → G γ κ 3 (0, 0) (Gq γ κ (pI post)) 55 [(0, .ref (κ.1 + 56))] [] M') : ∀ (n : Nat) (x2 : Int32) (M : Mem), q_Mo_net_L37 kx55 post n x2 M → G γ κ 3 (0, 0) (Gq γ κ (pI post)) 37 [(0, .ref (κ.1 + 56)), (2, .int x2)] [] M := by
  intro n
  induction n with
  | zero => intro x2 M hq; exact hq.elim
  | succ n ih =>
    intro x2 M hq
    unfold q_Mo_net_L37 at hq
    refine G_iload_n C 1 d_Mo_net_37 rfl rfl ?_
    refine G_bipush C (v := 12) d_Mo_net_38 (by decide) ?_
    refine G_icmp_ge C (tgt := 55) d_Mo_net_40 (by decide) (fun c => ?_) (fun c => ?_)
    · replace hq := hq.1 c
      exact G_sub [0] (by rfl) (hx55 _ hq)
    · replace hq := hq.2 c
      refine G_aload_n C 0 d_Mo_net_43 rfl rfl ?_
      refine G_iload_n C 1 d_Mo_net_44 rfl rfl ?_
      refine G_iconst C (v := 0) d_Mo_net_45 (by decide) ?_
      refine G_callV C (s_Mo_clears hq) v_Mo_clears i_Mo_clears z_Mo_clears wd_608 (by decide) rfl (k := 56) (ci := 7) (by decide) rfl rfl rfl (rest := []) (by rfl) (Nat.le_of_ble_eq_true rfl) d_Mo_net_46 (kv_ (fun M7 hq => ?_))
      refine G_iinc C (v := _ + 1) (lv' := [(2, _), (0, _)]) 1 d_Mo_net_49 rfl rfl (by decide) rfl ?_
      refine G_goto C (tgt := 37) d_Mo_net_52 (by decide) ?_
      exact G_sub [1, 0] (by rfl) (ih _ _ hq)
def q_Mo_net_L57 (kx76 : Mem → Prop) (post : Int32 → Mem → Prop) : Nat → Int32 → Mem → Prop
  | 0, _, _ => False
  | n + 1, x2, M => ((12 : Int32) ≤ x2 → kx76 M) ∧ (¬ (12 : Int32) ≤ x2 → vp_in x2 12 ∧ (∀ M10, M10 = wJ M 67 x2.toNatClampNeg (0 : Int64) → q_Mo_net_L57 kx76 post n (x2 + 1) M10))
set_option maxHeartbeats 4000000 in
theorem s_Mo_net_L57 {γ : Gm} {κ : Kp} {post : Int32 → Mem → Prop} {kx76 : Mem → Prop} (C : Cx γ κ "NetFormsModel" b_Mo_net 3 1 (0, 0)) (R : Rt γ (some .int)) (hx76 : ∀ M', kx76 M' → G γ κ 3 (0, 0) (Gq γ κ (pI post)) 76 [(0, .ref (κ.1 + 56))] [] M') : ∀ (n : Nat) (x2 : Int32) (M : Mem), q_Mo_net_L57 kx76 post n x2 M → G γ κ 3 (0, 0) (Gq γ κ (pI post)) 57 [(0, .ref (κ.1 + 56)), (2, .int x2)] [] M := by
  intro n
  induction n with
  | zero => intro x2 M hq; exact hq.elim
  | succ n ih =>
    intro x2 M hq
    unfold q_Mo_net_L57 at hq
    refine G_iload_n C 1 d_Mo_net_57 rfl rfl ?_
    refine G_bipush C (v := 12) d_Mo_net_58 (by decide) ?_
    refine G_icmp_ge C (tgt := 76) d_Mo_net_60 (by decide) (fun c => ?_) (fun c => ?_)
    · replace hq := hq.1 c
      exact G_sub [0] (by rfl) (hx76 _ hq)
    · replace hq := hq.2 c
      refine G_aload_n C 0 d_Mo_net_63 rfl rfl ?_
      refine Gg_Mo_flow C wd_534 d_Mo_net_64 ?_
      refine G_iload_n C 1 d_Mo_net_67 rfl rfl ?_
      refine G_lconst C (v := 0) d_Mo_net_68 (by decide) ?_
      refine G_lastore C (k := 67) (by decide) (fun _ _ => rfl) hq.1 d_Mo_net_69 ?_
      replace hq := hq.2 _ rfl
      refine G_iinc C (v := _ + 1) (lv' := [(2, _), (0, _)]) 1 d_Mo_net_70 rfl rfl (by decide) rfl ?_
      refine G_goto C (tgt := 57) d_Mo_net_73 (by decide) ?_
      exact G_sub [1, 0] (by rfl) (ih _ _ hq)
def q_Mo_net_L78 (kx104 : Mem → Prop) (post : Int32 → Mem → Prop) : Nat → Int32 → Mem → Prop
  | 0, _, _ => False
  | n + 1, x2, M => ((6 : Int32) ≤ x2 → kx104 M) ∧ (¬ (6 : Int32) ≤ x2 → vp_in x2 6 ∧ (∀ M13, M13 = wI M 64 x2.toNatClampNeg (0 : Int32) → vp_in x2 6 ∧ (∀ M14, M14 = wJ M13 66 x2.toNatClampNeg (0 : Int64) → q_Mo_net_L78 kx104 post n (x2 + 1) M14)))
set_option maxHeartbeats 4000000 in
theorem s_Mo_net_L78 {γ : Gm} {κ : Kp} {post : Int32 → Mem → Prop} {kx104 : Mem → Prop} (C : Cx γ κ "NetFormsModel" b_Mo_net 3 1 (0, 0)) (R : Rt γ (some .int)) (hx104 : ∀ M', kx104 M' → G γ κ 3 (0, 0) (Gq γ κ (pI post)) 104 [] [] M') : ∀ (n : Nat) (x2 : Int32) (M : Mem), q_Mo_net_L78 kx104 post n x2 M → G γ κ 3 (0, 0) (Gq γ κ (pI post)) 78 [(0, .ref (κ.1 + 56)), (2, .int x2)] [] M := by
  intro n
  induction n with
  | zero => intro x2 M hq; exact hq.elim
  | succ n ih =>
    intro x2 M hq
    unfold q_Mo_net_L78 at hq
    refine G_iload_n C 1 d_Mo_net_78 rfl rfl ?_
    refine G_bipush C (v := 6) d_Mo_net_79 (by decide) ?_
    refine G_icmp_ge C (tgt := 104) d_Mo_net_81 (by decide) (fun c => ?_) (fun c => ?_)
    · replace hq := hq.1 c
      exact G_sub [] (by rfl) (hx104 _ hq)
    · replace hq := hq.2 c
      refine G_aload_n C 0 d_Mo_net_84 rfl rfl ?_
      refine Gg_Mo_isWall C wd_531 d_Mo_net_85 ?_
      refine G_iload_n C 1 d_Mo_net_88 rfl rfl ?_
      refine G_iconst C (v := 0) d_Mo_net_89 (by decide) ?_
      refine G_bastore C (k := 64) (by decide) (fun _ _ => rfl) hq.1 (x2 := (0 : Int32)) (by decide) d_Mo_net_90 ?_
      replace hq := hq.2 _ rfl
      refine G_aload_n C 0 d_Mo_net_91 rfl rfl ?_
      refine Gg_Mo_height C wd_533 d_Mo_net_92 ?_
      refine G_iload_n C 1 d_Mo_net_95 rfl rfl ?_
      refine G_lconst C (v := 0) d_Mo_net_96 (by decide) ?_
      refine G_lastore C (k := 66) (by decide) (fun _ _ => rfl) hq.1 d_Mo_net_97 ?_
      replace hq := hq.2 _ rfl
      refine G_iinc C (v := _ + 1) (lv' := [(2, _), (0, _)]) 1 d_Mo_net_98 rfl rfl (by decide) rfl ?_
      refine G_goto C (tgt := 78) d_Mo_net_101 (by decide) ?_
      exact G_sub [1, 0] (by rfl) (ih _ _ hq)
def q_Mo_net (a1 : Int32) (M : Mem) (post : Int32 → Mem → Prop) : Prop := q_Mo_in a1.toInt64 (1 : Int64) (6 : Int64) M (fun r2 M1 => (¬ r2 = 0 → ∀ M3, M3 = wI M1 56 0 a1 → ∀ M4, M4 = wI M3 56 1 (0 : Int32) → ∀ M5, M5 = wI M4 56 2 (0 : Int32) → ∀ M6, M6 = wI M5 56 14 (0 : Int32) → ∃ n8, q_Mo_net_L37 (fun M9 => ∃ n11, q_Mo_net_L57 (fun M12 => ∃ n15, q_Mo_net_L78 (fun M16 => post (1 : Int32) M16) post n15 (0 : Int32) M12) post n11 (0 : Int32) M9) post n8 (0 : Int32) M6) ∧ (r2 = 0 → post (-2 : Int32) M1))
set_option maxHeartbeats 4000000 in
theorem s_Mo_net {l : Launch} {κ : Kp} {a1 : Int32} {M : Mem} {post : Int32 → Mem → Prop} (hq : q_Mo_net a1 M post) : Ct l κ y_Mo_net b_Mo_net 3 (some .int) 1 [.ref (κ.1 + 56), .int a1] M (pI post) := by
  refine Ct_of (by decide) (Nat.le_of_ble_eq_true rfl) (fun γ hγ C R => ?_)
  subst hγ
  unfold q_Mo_net at hq
  show G γ κ 3 (0, 0) (Gq γ κ (pI post)) 0 [(0, .ref (κ.1 + 56)), (1, .int a1)] [] M
  refine G_iload_n C 1 d_Mo_net_0 rfl rfl ?_
  refine G_i2l C d_Mo_net_1 ?_
  refine G_lconst C (v := 1) d_Mo_net_2 (by decide) ?_
  refine G_ldc2 C (v := 6) wd_604 d_Mo_net_3 ?_
  refine G_callS C (s_Mo_in hq) v_Mo_in z_Mo_in wd_605 (by decide) rfl (rest := []) (by rfl) (Nat.le_of_ble_eq_true rfl) d_Mo_net_6 (ki_ (fun r2 M1 hq => ?_))
  refine G_if_ne C (tgt := 15) d_Mo_net_9 (by decide) (fun c => ?_) (fun c => ?_)
  · replace hq := hq.1 c
    refine G_aload_n C 0 d_Mo_net_15 rfl rfl ?_
    refine G_iload_n C 1 d_Mo_net_16 rfl rfl ?_
    refine Gp_Mo_points C wd_521 d_Mo_net_17 ?_
    replace hq := hq _ rfl
    refine G_aload_n C 0 d_Mo_net_20 rfl rfl ?_
    refine G_iconst C (v := 0) d_Mo_net_21 (by decide) ?_
    refine Gp_Mo_edges C wd_522 d_Mo_net_22 ?_
    replace hq := hq _ rfl
    refine G_aload_n C 0 d_Mo_net_25 rfl rfl ?_
    refine G_iconst C (v := 0) d_Mo_net_26 (by decide) ?_
    refine Gp_Mo_faces C wd_523 d_Mo_net_27 ?_
    replace hq := hq _ rfl
    refine G_aload_n C 0 d_Mo_net_30 rfl rfl ?_
    refine G_iconst C (v := 0) d_Mo_net_31 (by decide) ?_
    refine Gp_Mo_steps C wd_535 d_Mo_net_32 ?_
    replace hq := hq _ rfl
    refine G_iconst C (v := 0) d_Mo_net_35 (by decide) ?_
    refine G_istore_n C (lv' := [(2, _), (0, _), (1, _)]) d_Mo_net_36 rfl (by decide) rfl ?_
    obtain ⟨n8, hq⟩ := hq
    refine G_sub [1, 0] (by rfl) (s_Mo_net_L37 C R ?_ n8 _ _ hq)
    · intro M9 hq
      refine G_iconst C (v := 0) d_Mo_net_55 (by decide) ?_
      refine G_istore_n C (lv' := [(2, _), (0, _)]) d_Mo_net_56 rfl (by decide) rfl ?_
      obtain ⟨n11, hq⟩ := hq
      refine G_sub [1, 0] (by rfl) (s_Mo_net_L57 C R ?_ n11 _ _ hq)
      · intro M12 hq
        refine G_iconst C (v := 0) d_Mo_net_76 (by decide) ?_
        refine G_istore_n C (lv' := [(2, _), (0, _)]) d_Mo_net_77 rfl (by decide) rfl ?_
        obtain ⟨n15, hq⟩ := hq
        refine G_sub [1, 0] (by rfl) (s_Mo_net_L78 C R ?_ n15 _ _ hq)
        · intro M16 hq
          refine G_iconst C (v := 1) d_Mo_net_104 (by decide) ?_
          exact G_iret C R d_Mo_net_105 ⟨_, rfl, hq⟩
  · replace hq := hq.2 c
    refine G_bipush C (v := -2) d_Mo_net_12 (by decide) ?_
    exact G_iret C R d_Mo_net_14 ⟨_, rfl, hq⟩
theorem d_Mo_isPoint_0 : decode b_Mo_isPoint 0 = .ok (.iload_n 1, 1) := by decide +kernel
theorem d_Mo_isPoint_1 : decode b_Mo_isPoint 1 = .ok (.i2l, 1) := by decide +kernel
theorem d_Mo_isPoint_2 : decode b_Mo_isPoint 2 = .ok (.lconst 0, 1) := by decide +kernel
theorem d_Mo_isPoint_3 : decode b_Mo_isPoint 3 = .ok (.aload_n 0, 1) := by decide +kernel
theorem d_Mo_isPoint_4 : decode b_Mo_isPoint 4 = .ok (.getfield 7, 3) := by decide +kernel
theorem d_Mo_isPoint_7 : decode b_Mo_isPoint 7 = .ok (.iconst 1, 1) := by decide +kernel
theorem d_Mo_isPoint_8 : decode b_Mo_isPoint 8 = .ok (.isub, 1) := by decide +kernel
theorem d_Mo_isPoint_9 : decode b_Mo_isPoint 9 = .ok (.i2l, 1) := by decide +kernel
theorem d_Mo_isPoint_10 : decode b_Mo_isPoint 10 = .ok (.invokestatic 75, 3) := by decide +kernel
theorem d_Mo_isPoint_13 : decode b_Mo_isPoint 13 = .ok (.ireturn, 1) := by decide +kernel
def q_Mo_isPoint (a1 : Int32) (M : Mem) (post : Int32 → Mem → Prop) : Prop := q_Mo_in a1.toInt64 (0 : Int64) (((M.1 56 0) - (1 : Int32)).toInt64) M (fun r2 M1 => narrow .boolean (.int r2) = .int r2 ∧ post r2 M1)
set_option maxHeartbeats 4000000 in
theorem s_Mo_isPoint {l : Launch} {κ : Kp} {a1 : Int32} {M : Mem} {post : Int32 → Mem → Prop} (hq : q_Mo_isPoint a1 M post) : Ct l κ y_Mo_isPoint b_Mo_isPoint 2 (some .boolean) 1 [.ref (κ.1 + 56), .int a1] M (pI post) := by
  refine Ct_of (by decide) (Nat.le_of_ble_eq_true rfl) (fun γ hγ C R => ?_)
  subst hγ
  unfold q_Mo_isPoint at hq
  show G γ κ 2 (0, 0) (Gq γ κ (pI post)) 0 [(0, .ref (κ.1 + 56)), (1, .int a1)] [] M
  refine G_iload_n C 1 d_Mo_isPoint_0 rfl rfl ?_
  refine G_i2l C d_Mo_isPoint_1 ?_
  refine G_lconst C (v := 0) d_Mo_isPoint_2 (by decide) ?_
  refine G_aload_n C 0 d_Mo_isPoint_3 rfl rfl ?_
  refine Gg_Mo_points C wd_521 d_Mo_isPoint_4 ?_
  refine G_iconst C (v := 1) d_Mo_isPoint_7 (by decide) ?_
  refine G_isub C d_Mo_isPoint_8 ?_
  refine G_i2l C d_Mo_isPoint_9 ?_
  refine G_callS C (s_Mo_in hq) v_Mo_in z_Mo_in wd_605 (by decide) rfl (rest := []) (by rfl) (Nat.le_of_ble_eq_true rfl) d_Mo_isPoint_10 (ki_ (fun r2 M1 hq => ?_))
  exact G_zret C R hq.1 d_Mo_isPoint_13 ⟨_, rfl, hq.2⟩
theorem d_Mo_corner_0 : decode b_Mo_corner 0 = .ok (.iload_n 1, 1) := by decide +kernel
theorem d_Mo_corner_1 : decode b_Mo_corner 1 = .ok (.iconst 1, 1) := by decide +kernel
theorem d_Mo_corner_2 : decode b_Mo_corner 2 = .ok (.if_icmp .ne 48, 3) := by decide +kernel
theorem d_Mo_corner_5 : decode b_Mo_corner 5 = .ok (.iload_n 2, 1) := by decide +kernel
theorem d_Mo_corner_6 : decode b_Mo_corner 6 = .ok (.i2l, 1) := by decide +kernel
theorem d_Mo_corner_7 : decode b_Mo_corner 7 = .ok (.lconst 0, 1) := by decide +kernel
theorem d_Mo_corner_8 : decode b_Mo_corner 8 = .ok (.aload_n 0, 1) := by decide +kernel
theorem d_Mo_corner_9 : decode b_Mo_corner 9 = .ok (.getfield 79, 3) := by decide +kernel
theorem d_Mo_corner_12 : decode b_Mo_corner 12 = .ok (.iconst 1, 1) := by decide +kernel
theorem d_Mo_corner_13 : decode b_Mo_corner 13 = .ok (.isub, 1) := by decide +kernel
theorem d_Mo_corner_14 : decode b_Mo_corner 14 = .ok (.i2l, 1) := by decide +kernel
theorem d_Mo_corner_15 : decode b_Mo_corner 15 = .ok (.invokestatic 75, 3) := by decide +kernel
theorem d_Mo_corner_18 : decode b_Mo_corner 18 = .ok (.ifCond .eq 32, 3) := by decide +kernel
theorem d_Mo_corner_21 : decode b_Mo_corner 21 = .ok (.iload_n 3, 1) := by decide +kernel
theorem d_Mo_corner_22 : decode b_Mo_corner 22 = .ok (.ifCond .ne 12, 3) := by decide +kernel
theorem d_Mo_corner_25 : decode b_Mo_corner 25 = .ok (.aload_n 0, 1) := by decide +kernel
theorem d_Mo_corner_26 : decode b_Mo_corner 26 = .ok (.getfield 13, 3) := by decide +kernel
theorem d_Mo_corner_29 : decode b_Mo_corner 29 = .ok (.iload_n 2, 1) := by decide +kernel
theorem d_Mo_corner_30 : decode b_Mo_corner 30 = .ok (.iaload, 1) := by decide +kernel
theorem d_Mo_corner_31 : decode b_Mo_corner 31 = .ok (.goto 18, 3) := by decide +kernel
theorem d_Mo_corner_34 : decode b_Mo_corner 34 = .ok (.iload_n 3, 1) := by decide +kernel
theorem d_Mo_corner_35 : decode b_Mo_corner 35 = .ok (.iconst 1, 1) := by decide +kernel
theorem d_Mo_corner_36 : decode b_Mo_corner 36 = .ok (.if_icmp .ne 12, 3) := by decide +kernel
theorem d_Mo_corner_39 : decode b_Mo_corner 39 = .ok (.aload_n 0, 1) := by decide +kernel
theorem d_Mo_corner_40 : decode b_Mo_corner 40 = .ok (.getfield 17, 3) := by decide +kernel
theorem d_Mo_corner_43 : decode b_Mo_corner 43 = .ok (.iload_n 2, 1) := by decide +kernel
theorem d_Mo_corner_44 : decode b_Mo_corner 44 = .ok (.iaload, 1) := by decide +kernel
theorem d_Mo_corner_45 : decode b_Mo_corner 45 = .ok (.goto 4, 3) := by decide +kernel
theorem d_Mo_corner_48 : decode b_Mo_corner 48 = .ok (.iconst (-1), 1) := by decide +kernel
theorem d_Mo_corner_49 : decode b_Mo_corner 49 = .ok (.ireturn, 1) := by decide +kernel
theorem d_Mo_corner_50 : decode b_Mo_corner 50 = .ok (.iload_n 1, 1) := by decide +kernel
theorem d_Mo_corner_51 : decode b_Mo_corner 51 = .ok (.iconst 2, 1) := by decide +kernel
theorem d_Mo_corner_52 : decode b_Mo_corner 52 = .ok (.if_icmp .ne 62, 3) := by decide +kernel
theorem d_Mo_corner_55 : decode b_Mo_corner 55 = .ok (.iload_n 2, 1) := by decide +kernel
theorem d_Mo_corner_56 : decode b_Mo_corner 56 = .ok (.i2l, 1) := by decide +kernel
theorem d_Mo_corner_57 : decode b_Mo_corner 57 = .ok (.lconst 0, 1) := by decide +kernel
theorem d_Mo_corner_58 : decode b_Mo_corner 58 = .ok (.aload_n 0, 1) := by decide +kernel
theorem d_Mo_corner_59 : decode b_Mo_corner 59 = .ok (.getfield 82, 3) := by decide +kernel
theorem d_Mo_corner_62 : decode b_Mo_corner 62 = .ok (.iconst 1, 1) := by decide +kernel
theorem d_Mo_corner_63 : decode b_Mo_corner 63 = .ok (.isub, 1) := by decide +kernel
theorem d_Mo_corner_64 : decode b_Mo_corner 64 = .ok (.i2l, 1) := by decide +kernel
theorem d_Mo_corner_65 : decode b_Mo_corner 65 = .ok (.invokestatic 75, 3) := by decide +kernel
theorem d_Mo_corner_68 : decode b_Mo_corner 68 = .ok (.ifCond .eq 46, 3) := by decide +kernel
theorem d_Mo_corner_71 : decode b_Mo_corner 71 = .ok (.iload_n 3, 1) := by decide +kernel
theorem d_Mo_corner_72 : decode b_Mo_corner 72 = .ok (.ifCond .ne 12, 3) := by decide +kernel
theorem d_Mo_corner_75 : decode b_Mo_corner 75 = .ok (.aload_n 0, 1) := by decide +kernel
theorem d_Mo_corner_76 : decode b_Mo_corner 76 = .ok (.getfield 20, 3) := by decide +kernel
theorem d_Mo_corner_79 : decode b_Mo_corner 79 = .ok (.iload_n 2, 1) := by decide +kernel
theorem d_Mo_corner_80 : decode b_Mo_corner 80 = .ok (.iaload, 1) := by decide +kernel
theorem d_Mo_corner_81 : decode b_Mo_corner 81 = .ok (.goto 32, 3) := by decide +kernel
theorem d_Mo_corner_84 : decode b_Mo_corner 84 = .ok (.iload_n 3, 1) := by decide +kernel
theorem d_Mo_corner_85 : decode b_Mo_corner 85 = .ok (.iconst 1, 1) := by decide +kernel
theorem d_Mo_corner_86 : decode b_Mo_corner 86 = .ok (.if_icmp .ne 12, 3) := by decide +kernel
theorem d_Mo_corner_89 : decode b_Mo_corner 89 = .ok (.aload_n 0, 1) := by decide +kernel
theorem d_Mo_corner_90 : decode b_Mo_corner 90 = .ok (.getfield 23, 3) := by decide +kernel
theorem d_Mo_corner_93 : decode b_Mo_corner 93 = .ok (.iload_n 2, 1) := by decide +kernel
theorem d_Mo_corner_94 : decode b_Mo_corner 94 = .ok (.iaload, 1) := by decide +kernel
theorem d_Mo_corner_95 : decode b_Mo_corner 95 = .ok (.goto 18, 3) := by decide +kernel
theorem d_Mo_corner_98 : decode b_Mo_corner 98 = .ok (.iload_n 3, 1) := by decide +kernel
theorem d_Mo_corner_99 : decode b_Mo_corner 99 = .ok (.iconst 2, 1) := by decide +kernel
theorem d_Mo_corner_100 : decode b_Mo_corner 100 = .ok (.if_icmp .ne 12, 3) := by decide +kernel
theorem d_Mo_corner_103 : decode b_Mo_corner 103 = .ok (.aload_n 0, 1) := by decide +kernel
theorem d_Mo_corner_104 : decode b_Mo_corner 104 = .ok (.getfield 26, 3) := by decide +kernel
theorem d_Mo_corner_107 : decode b_Mo_corner 107 = .ok (.iload_n 2, 1) := by decide +kernel
theorem d_Mo_corner_108 : decode b_Mo_corner 108 = .ok (.iaload, 1) := by decide +kernel
theorem d_Mo_corner_109 : decode b_Mo_corner 109 = .ok (.goto 4, 3) := by decide +kernel
theorem d_Mo_corner_112 : decode b_Mo_corner 112 = .ok (.iconst (-1), 1) := by decide +kernel
theorem d_Mo_corner_113 : decode b_Mo_corner 113 = .ok (.ireturn, 1) := by decide +kernel
theorem d_Mo_corner_114 : decode b_Mo_corner 114 = .ok (.bipush (-2), 2) := by decide +kernel
theorem d_Mo_corner_116 : decode b_Mo_corner 116 = .ok (.ireturn, 1) := by decide +kernel
def q_Mo_corner (a1 : Int32) (a2 : Int32) (a3 : Int32) (M : Mem) (post : Int32 → Mem → Prop) : Prop := (¬ a1 = (1 : Int32) → (¬ a1 = (2 : Int32) → post (-2 : Int32) M) ∧ (a1 = (2 : Int32) → q_Mo_in a2.toInt64 (0 : Int64) (((M.1 56 2) - (1 : Int32)).toInt64) M (fun r2 M1 => (r2 = 0 → post (-2 : Int32) M1) ∧ (¬ r2 = 0 → (¬ a3 = 0 → (¬ a3 = (1 : Int32) → (¬ a3 = (2 : Int32) → post (-1 : Int32) M1) ∧ (a3 = (2 : Int32) → vp_in a2 10 ∧ (post (M1.1 61 a2.toNatClampNeg) M1))) ∧ (a3 = (1 : Int32) → vp_in a2 10 ∧ (post (M1.1 60 a2.toNatClampNeg) M1))) ∧ (a3 = 0 → vp_in a2 10 ∧ (post (M1.1 59 a2.toNatClampNeg) M1)))))) ∧ (a1 = (1 : Int32) → q_Mo_in a2.toInt64 (0 : Int64) (((M.1 56 1) - (1 : Int32)).toInt64) M (fun r4 M3 => (r4 = 0 → (¬ a1 = (2 : Int32) → post (-2 : Int32) M3) ∧ (a1 = (2 : Int32) → q_Mo_in a2.toInt64 (0 : Int64) (((M3.1 56 2) - (1 : Int32)).toInt64) M3 (fun r6 M5 => (r6 = 0 → post (-2 : Int32) M5) ∧ (¬ r6 = 0 → (¬ a3 = 0 → (¬ a3 = (1 : Int32) → (¬ a3 = (2 : Int32) → post (-1 : Int32) M5) ∧ (a3 = (2 : Int32) → vp_in a2 10 ∧ (post (M5.1 61 a2.toNatClampNeg) M5))) ∧ (a3 = (1 : Int32) → vp_in a2 10 ∧ (post (M5.1 60 a2.toNatClampNeg) M5))) ∧ (a3 = 0 → vp_in a2 10 ∧ (post (M5.1 59 a2.toNatClampNeg) M5)))))) ∧ (¬ r4 = 0 → (¬ a3 = 0 → (¬ a3 = (1 : Int32) → post (-1 : Int32) M3) ∧ (a3 = (1 : Int32) → vp_in a2 12 ∧ (post (M3.1 58 a2.toNatClampNeg) M3))) ∧ (a3 = 0 → vp_in a2 12 ∧ (post (M3.1 57 a2.toNatClampNeg) M3)))))
set_option maxHeartbeats 4000000 in
theorem s_Mo_corner {l : Launch} {κ : Kp} {a1 : Int32} {a2 : Int32} {a3 : Int32} {M : Mem} {post : Int32 → Mem → Prop} (hq : q_Mo_corner a1 a2 a3 M post) : Ct l κ y_Mo_corner b_Mo_corner 4 (some .int) 1 [.ref (κ.1 + 56), .int a1, .int a2, .int a3] M (pI post) := by
  refine Ct_of (by decide) (Nat.le_of_ble_eq_true rfl) (fun γ hγ C R => ?_)
  subst hγ
  unfold q_Mo_corner at hq
  show G γ κ 4 (0, 0) (Gq γ κ (pI post)) 0 [(0, .ref (κ.1 + 56)), (1, .int a1), (2, .int a2), (3, .int a3)] [] M
  refine G_iload_n C 1 d_Mo_corner_0 rfl rfl ?_
  refine G_iconst C (v := 1) d_Mo_corner_1 (by decide) ?_
  refine G_icmp_ne C (tgt := 50) d_Mo_corner_2 (by decide) (fun c => ?_) (fun c => ?_)
  · replace hq := hq.1 c
    refine G_iload_n C 1 d_Mo_corner_50 rfl rfl ?_
    refine G_iconst C (v := 2) d_Mo_corner_51 (by decide) ?_
    refine G_icmp_ne C (tgt := 114) d_Mo_corner_52 (by decide) (fun c => ?_) (fun c => ?_)
    · replace hq := hq.1 c
      refine G_bipush C (v := -2) d_Mo_corner_114 (by decide) ?_
      exact G_iret C R d_Mo_corner_116 ⟨_, rfl, hq⟩
    · replace hq := hq.2 c
      refine G_iload_n C 2 d_Mo_corner_55 rfl rfl ?_
      refine G_i2l C d_Mo_corner_56 ?_
      refine G_lconst C (v := 0) d_Mo_corner_57 (by decide) ?_
      refine G_aload_n C 0 d_Mo_corner_58 rfl rfl ?_
      refine Gg_Mo_faces C wd_523 d_Mo_corner_59 ?_
      refine G_iconst C (v := 1) d_Mo_corner_62 (by decide) ?_
      refine G_isub C d_Mo_corner_63 ?_
      refine G_i2l C d_Mo_corner_64 ?_
      refine G_callS C (s_Mo_in hq) v_Mo_in z_Mo_in wd_605 (by decide) rfl (rest := []) (by rfl) (Nat.le_of_ble_eq_true rfl) d_Mo_corner_65 (ki_ (fun r2 M1 hq => ?_))
      refine G_if_eq C (tgt := 114) d_Mo_corner_68 (by decide) (fun c => ?_) (fun c => ?_)
      · replace hq := hq.1 c
        refine G_bipush C (v := -2) d_Mo_corner_114 (by decide) ?_
        exact G_iret C R d_Mo_corner_116 ⟨_, rfl, hq⟩
      · replace hq := hq.2 c
        refine G_iload_n C 3 d_Mo_corner_71 rfl rfl ?_
        refine G_if_ne C (tgt := 84) d_Mo_corner_72 (by decide) (fun c => ?_) (fun c => ?_)
        · replace hq := hq.1 c
          refine G_iload_n C 3 d_Mo_corner_84 rfl rfl ?_
          refine G_iconst C (v := 1) d_Mo_corner_85 (by decide) ?_
          refine G_icmp_ne C (tgt := 98) d_Mo_corner_86 (by decide) (fun c => ?_) (fun c => ?_)
          · replace hq := hq.1 c
            refine G_iload_n C 3 d_Mo_corner_98 rfl rfl ?_
            refine G_iconst C (v := 2) d_Mo_corner_99 (by decide) ?_
            refine G_icmp_ne C (tgt := 112) d_Mo_corner_100 (by decide) (fun c => ?_) (fun c => ?_)
            · replace hq := hq.1 c
              refine G_iconst C (v := -1) d_Mo_corner_112 (by decide) ?_
              exact G_iret C R d_Mo_corner_113 ⟨_, rfl, hq⟩
            · replace hq := hq.2 c
              refine G_aload_n C 0 d_Mo_corner_103 rfl rfl ?_
              refine Gg_Mo_third C wd_528 d_Mo_corner_104 ?_
              refine G_iload_n C 2 d_Mo_corner_107 rfl rfl ?_
              refine G_iaload C (k := 61) (by decide) (fun _ _ => rfl) hq.1 d_Mo_corner_108 ?_
              replace hq := hq.2
              refine G_goto C (tgt := 113) d_Mo_corner_109 (by decide) ?_
              exact G_iret C R d_Mo_corner_113 ⟨_, rfl, hq⟩
          · replace hq := hq.2 c
            refine G_aload_n C 0 d_Mo_corner_89 rfl rfl ?_
            refine Gg_Mo_second C wd_527 d_Mo_corner_90 ?_
            refine G_iload_n C 2 d_Mo_corner_93 rfl rfl ?_
            refine G_iaload C (k := 60) (by decide) (fun _ _ => rfl) hq.1 d_Mo_corner_94 ?_
            replace hq := hq.2
            refine G_goto C (tgt := 113) d_Mo_corner_95 (by decide) ?_
            exact G_iret C R d_Mo_corner_113 ⟨_, rfl, hq⟩
        · replace hq := hq.2 c
          refine G_aload_n C 0 d_Mo_corner_75 rfl rfl ?_
          refine Gg_Mo_first C wd_526 d_Mo_corner_76 ?_
          refine G_iload_n C 2 d_Mo_corner_79 rfl rfl ?_
          refine G_iaload C (k := 59) (by decide) (fun _ _ => rfl) hq.1 d_Mo_corner_80 ?_
          replace hq := hq.2
          refine G_goto C (tgt := 113) d_Mo_corner_81 (by decide) ?_
          exact G_iret C R d_Mo_corner_113 ⟨_, rfl, hq⟩
  · replace hq := hq.2 c
    refine G_iload_n C 2 d_Mo_corner_5 rfl rfl ?_
    refine G_i2l C d_Mo_corner_6 ?_
    refine G_lconst C (v := 0) d_Mo_corner_7 (by decide) ?_
    refine G_aload_n C 0 d_Mo_corner_8 rfl rfl ?_
    refine Gg_Mo_edges C wd_522 d_Mo_corner_9 ?_
    refine G_iconst C (v := 1) d_Mo_corner_12 (by decide) ?_
    refine G_isub C d_Mo_corner_13 ?_
    refine G_i2l C d_Mo_corner_14 ?_
    refine G_callS C (s_Mo_in hq) v_Mo_in z_Mo_in wd_605 (by decide) rfl (rest := []) (by rfl) (Nat.le_of_ble_eq_true rfl) d_Mo_corner_15 (ki_ (fun r4 M3 hq => ?_))
    refine G_if_eq C (tgt := 50) d_Mo_corner_18 (by decide) (fun c => ?_) (fun c => ?_)
    · replace hq := hq.1 c
      refine G_iload_n C 1 d_Mo_corner_50 rfl rfl ?_
      refine G_iconst C (v := 2) d_Mo_corner_51 (by decide) ?_
      refine G_icmp_ne C (tgt := 114) d_Mo_corner_52 (by decide) (fun c => ?_) (fun c => ?_)
      · replace hq := hq.1 c
        refine G_bipush C (v := -2) d_Mo_corner_114 (by decide) ?_
        exact G_iret C R d_Mo_corner_116 ⟨_, rfl, hq⟩
      · replace hq := hq.2 c
        refine G_iload_n C 2 d_Mo_corner_55 rfl rfl ?_
        refine G_i2l C d_Mo_corner_56 ?_
        refine G_lconst C (v := 0) d_Mo_corner_57 (by decide) ?_
        refine G_aload_n C 0 d_Mo_corner_58 rfl rfl ?_
        refine Gg_Mo_faces C wd_523 d_Mo_corner_59 ?_
        refine G_iconst C (v := 1) d_Mo_corner_62 (by decide) ?_
        refine G_isub C d_Mo_corner_63 ?_
        refine G_i2l C d_Mo_corner_64 ?_
        refine G_callS C (s_Mo_in hq) v_Mo_in z_Mo_in wd_605 (by decide) rfl (rest := []) (by rfl) (Nat.le_of_ble_eq_true rfl) d_Mo_corner_65 (ki_ (fun r6 M5 hq => ?_))
        refine G_if_eq C (tgt := 114) d_Mo_corner_68 (by decide) (fun c => ?_) (fun c => ?_)
        · replace hq := hq.1 c
          refine G_bipush C (v := -2) d_Mo_corner_114 (by decide) ?_
          exact G_iret C R d_Mo_corner_116 ⟨_, rfl, hq⟩
        · replace hq := hq.2 c
          refine G_iload_n C 3 d_Mo_corner_71 rfl rfl ?_
          refine G_if_ne C (tgt := 84) d_Mo_corner_72 (by decide) (fun c => ?_) (fun c => ?_)
          · replace hq := hq.1 c
            refine G_iload_n C 3 d_Mo_corner_84 rfl rfl ?_
            refine G_iconst C (v := 1) d_Mo_corner_85 (by decide) ?_
            refine G_icmp_ne C (tgt := 98) d_Mo_corner_86 (by decide) (fun c => ?_) (fun c => ?_)
            · replace hq := hq.1 c
              refine G_iload_n C 3 d_Mo_corner_98 rfl rfl ?_
              refine G_iconst C (v := 2) d_Mo_corner_99 (by decide) ?_
              refine G_icmp_ne C (tgt := 112) d_Mo_corner_100 (by decide) (fun c => ?_) (fun c => ?_)
              · replace hq := hq.1 c
                refine G_iconst C (v := -1) d_Mo_corner_112 (by decide) ?_
                exact G_iret C R d_Mo_corner_113 ⟨_, rfl, hq⟩
              · replace hq := hq.2 c
                refine G_aload_n C 0 d_Mo_corner_103 rfl rfl ?_
                refine Gg_Mo_third C wd_528 d_Mo_corner_104 ?_
                refine G_iload_n C 2 d_Mo_corner_107 rfl rfl ?_
                refine G_iaload C (k := 61) (by decide) (fun _ _ => rfl) hq.1 d_Mo_corner_108 ?_
                replace hq := hq.2
                refine G_goto C (tgt := 113) d_Mo_corner_109 (by decide) ?_
                exact G_iret C R d_Mo_corner_113 ⟨_, rfl, hq⟩
            · replace hq := hq.2 c
              refine G_aload_n C 0 d_Mo_corner_89 rfl rfl ?_
              refine Gg_Mo_second C wd_527 d_Mo_corner_90 ?_
              refine G_iload_n C 2 d_Mo_corner_93 rfl rfl ?_
              refine G_iaload C (k := 60) (by decide) (fun _ _ => rfl) hq.1 d_Mo_corner_94 ?_
              replace hq := hq.2
              refine G_goto C (tgt := 113) d_Mo_corner_95 (by decide) ?_
              exact G_iret C R d_Mo_corner_113 ⟨_, rfl, hq⟩
          · replace hq := hq.2 c
            refine G_aload_n C 0 d_Mo_corner_75 rfl rfl ?_
            refine Gg_Mo_first C wd_526 d_Mo_corner_76 ?_
            refine G_iload_n C 2 d_Mo_corner_79 rfl rfl ?_
            refine G_iaload C (k := 59) (by decide) (fun _ _ => rfl) hq.1 d_Mo_corner_80 ?_
            replace hq := hq.2
            refine G_goto C (tgt := 113) d_Mo_corner_81 (by decide) ?_
            exact G_iret C R d_Mo_corner_113 ⟨_, rfl, hq⟩
    · replace hq := hq.2 c
      refine G_iload_n C 3 d_Mo_corner_21 rfl rfl ?_
      refine G_if_ne C (tgt := 34) d_Mo_corner_22 (by decide) (fun c => ?_) (fun c => ?_)
      · replace hq := hq.1 c
        refine G_iload_n C 3 d_Mo_corner_34 rfl rfl ?_
        refine G_iconst C (v := 1) d_Mo_corner_35 (by decide) ?_
        refine G_icmp_ne C (tgt := 48) d_Mo_corner_36 (by decide) (fun c => ?_) (fun c => ?_)
        · replace hq := hq.1 c
          refine G_iconst C (v := -1) d_Mo_corner_48 (by decide) ?_
          exact G_iret C R d_Mo_corner_49 ⟨_, rfl, hq⟩
        · replace hq := hq.2 c
          refine G_aload_n C 0 d_Mo_corner_39 rfl rfl ?_
          refine Gg_Mo_end C wd_525 d_Mo_corner_40 ?_
          refine G_iload_n C 2 d_Mo_corner_43 rfl rfl ?_
          refine G_iaload C (k := 58) (by decide) (fun _ _ => rfl) hq.1 d_Mo_corner_44 ?_
          replace hq := hq.2
          refine G_goto C (tgt := 49) d_Mo_corner_45 (by decide) ?_
          exact G_iret C R d_Mo_corner_49 ⟨_, rfl, hq⟩
      · replace hq := hq.2 c
        refine G_aload_n C 0 d_Mo_corner_25 rfl rfl ?_
        refine Gg_Mo_begin C wd_524 d_Mo_corner_26 ?_
        refine G_iload_n C 2 d_Mo_corner_29 rfl rfl ?_
        refine G_iaload C (k := 57) (by decide) (fun _ _ => rfl) hq.1 d_Mo_corner_30 ?_
        replace hq := hq.2
        refine G_goto C (tgt := 49) d_Mo_corner_31 (by decide) ?_
        exact G_iret C R d_Mo_corner_49 ⟨_, rfl, hq⟩
theorem d_Mo_isForm_0 : decode b_Mo_isForm 0 = .ok (.iload_n 0, 1) := by decide +kernel
theorem d_Mo_isForm_1 : decode b_Mo_isForm 1 = .ok (.i2l, 1) := by decide +kernel
theorem d_Mo_isForm_2 : decode b_Mo_isForm 2 = .ok (.lconst 0, 1) := by decide +kernel
theorem d_Mo_isForm_3 : decode b_Mo_isForm 3 = .ok (.ldc2_w 100, 3) := by decide +kernel
theorem d_Mo_isForm_6 : decode b_Mo_isForm 6 = .ok (.invokestatic 75, 3) := by decide +kernel
theorem d_Mo_isForm_9 : decode b_Mo_isForm 9 = .ok (.ireturn, 1) := by decide +kernel
def q_Mo_isForm (a0 : Int32) (M : Mem) (post : Int32 → Mem → Prop) : Prop := q_Mo_in a0.toInt64 (0 : Int64) (11 : Int64) M (fun r2 M1 => narrow .boolean (.int r2) = .int r2 ∧ post r2 M1)
set_option maxHeartbeats 4000000 in
theorem s_Mo_isForm {l : Launch} {κ : Kp} {a0 : Int32} {M : Mem} {post : Int32 → Mem → Prop} (hq : q_Mo_isForm a0 M post) : Ct l κ y_Mo_isForm b_Mo_isForm 1 (some .boolean) 1 [.int a0] M (pI post) := by
  refine Ct_of (by decide) (Nat.le_of_ble_eq_true rfl) (fun γ hγ C R => ?_)
  subst hγ
  unfold q_Mo_isForm at hq
  show G γ κ 1 (0, 0) (Gq γ κ (pI post)) 0 [(0, .int a0)] [] M
  refine G_iload_n C 0 d_Mo_isForm_0 rfl rfl ?_
  refine G_i2l C d_Mo_isForm_1 ?_
  refine G_lconst C (v := 0) d_Mo_isForm_2 (by decide) ?_
  refine G_ldc2 C (v := 11) wd_639 d_Mo_isForm_3 ?_
  refine G_callS C (s_Mo_in hq) v_Mo_in z_Mo_in wd_605 (by decide) rfl (rest := []) (by rfl) (Nat.le_of_ble_eq_true rfl) d_Mo_isForm_6 (ki_ (fun r2 M1 hq => ?_))
  exact G_zret C R hq.1 d_Mo_isForm_9 ⟨_, rfl, hq.2⟩
theorem d_Mo_onEdge_0 : decode b_Mo_onEdge 0 = .ok (.aload_n 0, 1) := by decide +kernel
theorem d_Mo_onEdge_1 : decode b_Mo_onEdge 1 = .ok (.iload_n 1, 1) := by decide +kernel
theorem d_Mo_onEdge_2 : decode b_Mo_onEdge 2 = .ok (.aload_n 0, 1) := by decide +kernel
theorem d_Mo_onEdge_3 : decode b_Mo_onEdge 3 = .ok (.iload_n 2, 1) := by decide +kernel
theorem d_Mo_onEdge_4 : decode b_Mo_onEdge 4 = .ok (.iload_n 3, 1) := by decide +kernel
theorem d_Mo_onEdge_5 : decode b_Mo_onEdge 5 = .ok (.invokevirtual 96, 3) := by decide +kernel
theorem d_Mo_onEdge_8 : decode b_Mo_onEdge 8 = .ok (.invokevirtual 120, 3) := by decide +kernel
theorem d_Mo_onEdge_11 : decode b_Mo_onEdge 11 = .ok (.lreturn, 1) := by decide +kernel
def q_Mo_onEdge (a1 : Int32) (a2 : Int32) (a3 : Int32) (M : Mem) (post : Int64 → Mem → Prop) : Prop := q_Mo_edgeOf a2 a3 M (fun r2 M1 => q_Mo_at a1 r2 M1 (fun r4 M3 => post r4 M3))
set_option maxHeartbeats 4000000 in
theorem s_Mo_onEdge {l : Launch} {κ : Kp} {a1 : Int32} {a2 : Int32} {a3 : Int32} {M : Mem} {post : Int64 → Mem → Prop} (hq : q_Mo_onEdge a1 a2 a3 M post) : Ct l κ y_Mo_onEdge b_Mo_onEdge 4 (some .long) 1 [.ref (κ.1 + 56), .int a1, .int a2, .int a3] M (pJ post) := by
  refine Ct_of (by decide) (Nat.le_of_ble_eq_true rfl) (fun γ hγ C R => ?_)
  subst hγ
  unfold q_Mo_onEdge at hq
  show G γ κ 4 (0, 0) (Gq γ κ (pJ post)) 0 [(0, .ref (κ.1 + 56)), (1, .int a1), (2, .int a2), (3, .int a3)] [] M
  refine G_aload_n C 0 d_Mo_onEdge_0 rfl rfl ?_
  refine G_iload_n C 1 d_Mo_onEdge_1 rfl rfl ?_
  refine G_aload_n C 0 d_Mo_onEdge_2 rfl rfl ?_
  refine G_iload_n C 2 d_Mo_onEdge_3 rfl rfl ?_
  refine G_iload_n C 3 d_Mo_onEdge_4 rfl rfl ?_
  refine G_callV C (s_Mo_edgeOf hq) v_Mo_edgeOf i_Mo_edgeOf z_Mo_edgeOf wd_620 (by decide) rfl (k := 56) (ci := 7) (by decide) rfl rfl rfl (rest := [_, _]) (by rfl) (Nat.le_of_ble_eq_true rfl) d_Mo_onEdge_5 (ki_ (fun r2 M1 hq => ?_))
  refine G_callV C (s_Mo_at hq) v_Mo_at i_Mo_at z_Mo_at wd_668 (by decide) rfl (k := 56) (ci := 7) (by decide) rfl rfl rfl (rest := []) (by rfl) (Nat.le_of_ble_eq_true rfl) d_Mo_onEdge_8 (kj_ (fun r4 M3 hq => ?_))
  exact G_lret C R d_Mo_onEdge_11 ⟨_, rfl, hq⟩
