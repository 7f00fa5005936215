theorem d_Wal_isWalled_0 : decode b_Wal_isWalled 0 = .ok (.iconst 0, 1) := by decide +kernel
theorem d_Wal_isWalled_1 : decode b_Wal_isWalled 1 = .ok (.istore_n 3, 1) := by decide +kernel
theorem d_Wal_isWalled_2 : decode b_Wal_isWalled 2 = .ok (.iload_n 3, 1) := by decide +kernel
theorem d_Wal_isWalled_3 : decode b_Wal_isWalled 3 = .ok (.aload_n 1, 1) := by decide +kernel
theorem d_Wal_isWalled_4 : decode b_Wal_isWalled 4 = .ok (.getfield 19, 3) := by decide +kernel
theorem d_Wal_isWalled_7 : decode b_Wal_isWalled 7 = .ok (.if_icmp .ge 30, 3) := by decide +kernel
theorem d_Wal_isWalled_10 : decode b_Wal_isWalled 10 = .ok (.aload_n 1, 1) := by decide +kernel
theorem d_Wal_isWalled_11 : decode b_Wal_isWalled 11 = .ok (.getfield 25, 3) := by decide +kernel
theorem d_Wal_isWalled_14 : decode b_Wal_isWalled 14 = .ok (.iload_n 3, 1) := by decide +kernel
theorem d_Wal_isWalled_15 : decode b_Wal_isWalled 15 = .ok (.iaload, 1) := by decide +kernel
theorem d_Wal_isWalled_16 : decode b_Wal_isWalled 16 = .ok (.iload_n 2, 1) := by decide +kernel
theorem d_Wal_isWalled_17 : decode b_Wal_isWalled 17 = .ok (.if_icmp .ne 14, 3) := by decide +kernel
theorem d_Wal_isWalled_20 : decode b_Wal_isWalled 20 = .ok (.aload_n 0, 1) := by decide +kernel
theorem d_Wal_isWalled_21 : decode b_Wal_isWalled 21 = .ok (.getfield 9, 3) := by decide +kernel
theorem d_Wal_isWalled_24 : decode b_Wal_isWalled 24 = .ok (.iload_n 3, 1) := by decide +kernel
theorem d_Wal_isWalled_25 : decode b_Wal_isWalled 25 = .ok (.baload, 1) := by decide +kernel
theorem d_Wal_isWalled_26 : decode b_Wal_isWalled 26 = .ok (.ifCond .eq 5, 3) := by decide +kernel
theorem d_Wal_isWalled_29 : decode b_Wal_isWalled 29 = .ok (.iconst 1, 1) := by decide +kernel
theorem d_Wal_isWalled_30 : decode b_Wal_isWalled 30 = .ok (.ireturn, 1) := by decide +kernel
theorem d_Wal_isWalled_31 : decode b_Wal_isWalled 31 = .ok (.iinc 3 1, 3) := by decide +kernel
theorem d_Wal_isWalled_34 : decode b_Wal_isWalled 34 = .ok (.goto (-32), 3) := by decide +kernel
theorem d_Wal_isWalled_37 : decode b_Wal_isWalled 37 = .ok (.iconst 0, 1) := by decide +kernel
theorem d_Wal_isWalled_38 : decode b_Wal_isWalled 38 = .ok (.ireturn, 1) := by decide +kernel
def q_Wal_isWalled_L2 (kx29 : Mem → Prop) (kx37 : Mem → Prop) (post : Int32 → Mem → Prop) : Nat → Int32 → Int32 → Mem → Prop
  | 0, _, _, _ => False
  | n + 1, x2, x3, M => ((M.1 1 0) ≤ x3 → kx37 M) ∧ (¬ (M.1 1 0) ≤ x3 → vp_in x3 6 ∧ ((¬ (M.1 7 x3.toNatClampNeg) = x2 → q_Wal_isWalled_L2 kx29 kx37 post n x2 (x3 + 1) M) ∧ ((M.1 7 x3.toNatClampNeg) = x2 → vp_in x3 6 ∧ (((M.1 10 x3.toNatClampNeg) = 0 → q_Wal_isWalled_L2 kx29 kx37 post n x2 (x3 + 1) M) ∧ (¬ (M.1 10 x3.toNatClampNeg) = 0 → kx29 M)))))
set_option maxHeartbeats 4000000 in
theorem s_Wal_isWalled_L2 {γ : Gm} {κ : Kp} {post : Int32 → Mem → Prop} {kx29 : Mem → Prop} {kx37 : Mem → Prop} (C : Cx γ κ "NetForms$Walls" b_Wal_isWalled 4 0 (0, 0)) (R : Rt γ (some .boolean)) (hx29 : ∀ M', kx29 M' → G γ κ 4 (0, 0) (Gq γ κ (pI post)) 29 [] [] M') (hx37 : ∀ M', kx37 M' → G γ κ 4 (0, 0) (Gq γ κ (pI post)) 37 [] [] M') : ∀ (n : Nat) (x2 : Int32) (x3 : Int32) (M : Mem), q_Wal_isWalled_L2 kx29 kx37 post n x2 x3 M → G γ κ 4 (0, 0) (Gq γ κ (pI post)) 2 [(0, .ref (κ.1 + 9)), (1, .ref (κ.1 + 1)), (2, .int x2), (3, .int x3)] [] M := by
  intro n
  induction n with
  | zero => intro x2 x3 M hq; exact hq.elim
  | succ n ih =>
    intro x2 x3 M hq
    unfold q_Wal_isWalled_L2 at hq
    refine G_iload_n C 3 d_Wal_isWalled_2 rfl rfl ?_
    refine G_aload_n C 1 d_Wal_isWalled_3 rfl rfl ?_
    refine Gg_Net_points C wd_26 d_Wal_isWalled_4 ?_
    refine G_icmp_ge C (tgt := 37) d_Wal_isWalled_7 (by decide) (fun c => ?_) (fun c => ?_)
    · replace hq := hq.1 c
      exact G_sub [] (by rfl) (hx37 _ hq)
    · replace hq := hq.2 c
      refine G_aload_n C 1 d_Wal_isWalled_10 rfl rfl ?_
      refine Gg_Net_leasts C wd_46 d_Wal_isWalled_11 ?_
      refine G_iload_n C 3 d_Wal_isWalled_14 rfl rfl ?_
      refine G_iaload C (k := 7) (by decide) (fun _ _ => rfl) hq.1 d_Wal_isWalled_15 ?_
      replace hq := hq.2
      refine G_iload_n C 2 d_Wal_isWalled_16 rfl rfl ?_
      refine G_icmp_ne C (tgt := 31) d_Wal_isWalled_17 (by decide) (fun c => ?_) (fun c => ?_)
      · replace hq := hq.1 c
        refine G_iinc C (v := _ + 1) (lv' := [(3, _), (0, _), (1, _), (2, _)]) 3 d_Wal_isWalled_31 rfl rfl (by decide) rfl ?_
        refine G_goto C (tgt := 2) d_Wal_isWalled_34 (by decide) ?_
        exact G_sub [1, 2, 3, 0] (by rfl) (ih _ _ _ hq)
      · replace hq := hq.2 c
        refine G_aload_n C 0 d_Wal_isWalled_20 rfl rfl ?_
        refine Gg_Wal_there C wd_75 d_Wal_isWalled_21 ?_
        refine G_iload_n C 3 d_Wal_isWalled_24 rfl rfl ?_
        refine G_baload C (k := 10) (by decide) (fun _ _ => rfl) hq.1 d_Wal_isWalled_25 ?_
        replace hq := hq.2
        refine G_if_eq C (tgt := 31) d_Wal_isWalled_26 (by decide) (fun c => ?_) (fun c => ?_)
        · replace hq := hq.1 c
          refine G_iinc C (v := _ + 1) (lv' := [(3, _), (0, _), (1, _), (2, _)]) 3 d_Wal_isWalled_31 rfl rfl (by decide) rfl ?_
          refine G_goto C (tgt := 2) d_Wal_isWalled_34 (by decide) ?_
          exact G_sub [1, 2, 3, 0] (by rfl) (ih _ _ _ hq)
        · replace hq := hq.2 c
          exact G_sub [] (by rfl) (hx29 _ hq)
def q_Wal_isWalled (a2 : Int32) (M : Mem) (post : Int32 → Mem → Prop) : Prop := ∃ n1, q_Wal_isWalled_L2 (fun M2 => post (1 : Int32) M2) (fun M3 => post (0 : Int32) M3) post n1 a2 (0 : Int32) M
set_option maxHeartbeats 4000000 in
theorem s_Wal_isWalled {l : Launch} {κ : Kp} {a2 : Int32} {M : Mem} {post : Int32 → Mem → Prop} (hq : q_Wal_isWalled a2 M post) : Ct l κ y_Wal_isWalled b_Wal_isWalled 4 (some .boolean) 0 [.ref (κ.1 + 9), .ref (κ.1 + 1), .int a2] M (pI post) := by
  refine Ct_of (by decide) (Nat.le_of_ble_eq_true rfl) (fun γ hγ C R => ?_)
  subst hγ
  unfold q_Wal_isWalled at hq
  show G γ κ 4 (0, 0) (Gq γ κ (pI post)) 0 [(0, .ref (κ.1 + 9)), (1, .ref (κ.1 + 1)), (2, .int a2)] [] M
  refine G_iconst C (v := 0) d_Wal_isWalled_0 (by decide) ?_
  refine G_istore_n C (lv' := [(3, _), (0, _), (1, _), (2, _)]) d_Wal_isWalled_1 rfl (by decide) rfl ?_
  obtain ⟨n1, hq⟩ := hq
  refine G_sub [1, 2, 3, 0] (by rfl) (s_Wal_isWalled_L2 C R ?_ ?_ n1 _ _ _ hq)
  · intro M2 hq
    refine G_iconst C (v := 1) d_Wal_isWalled_29 (by decide) ?_
    exact G_zret C R rfl d_Wal_isWalled_30 ⟨_, rfl, hq⟩
  · intro M3 hq
    refine G_iconst C (v := 0) d_Wal_isWalled_37 (by decide) ?_
    exact G_zret C R rfl d_Wal_isWalled_38 ⟨_, rfl, hq⟩
theorem d_Wav_stepOn_0 : decode b_Wav_stepOn 0 = .ok (.iconst 0, 1) := by decide +kernel
theorem d_Wav_stepOn_1 : decode b_Wav_stepOn 1 = .ok (.istore_n 2, 1) := by decide +kernel
theorem d_Wav_stepOn_2 : decode b_Wav_stepOn 2 = .ok (.iload_n 2, 1) := by decide +kernel
theorem d_Wav_stepOn_3 : decode b_Wav_stepOn 3 = .ok (.aload_n 1, 1) := by decide +kernel
theorem d_Wav_stepOn_4 : decode b_Wav_stepOn 4 = .ok (.getfield 28, 3) := by decide +kernel
theorem d_Wav_stepOn_7 : decode b_Wav_stepOn 7 = .ok (.if_icmp .ge 41, 3) := by decide +kernel
theorem d_Wav_stepOn_10 : decode b_Wav_stepOn 10 = .ok (.aload_n 0, 1) := by decide +kernel
theorem d_Wav_stepOn_11 : decode b_Wav_stepOn 11 = .ok (.getfield 15, 3) := by decide +kernel
theorem d_Wav_stepOn_14 : decode b_Wav_stepOn 14 = .ok (.iload_n 2, 1) := by decide +kernel
theorem d_Wav_stepOn_15 : decode b_Wav_stepOn 15 = .ok (.dup2, 1) := by decide +kernel
theorem d_Wav_stepOn_16 : decode b_Wav_stepOn 16 = .ok (.laload, 1) := by decide +kernel
theorem d_Wav_stepOn_17 : decode b_Wav_stepOn 17 = .ok (.aload_n 0, 1) := by decide +kernel
theorem d_Wav_stepOn_18 : decode b_Wav_stepOn 18 = .ok (.getfield 9, 3) := by decide +kernel
theorem d_Wav_stepOn_21 : decode b_Wav_stepOn 21 = .ok (.aload_n 1, 1) := by decide +kernel
theorem d_Wav_stepOn_22 : decode b_Wav_stepOn 22 = .ok (.getfield 33, 3) := by decide +kernel
theorem d_Wav_stepOn_25 : decode b_Wav_stepOn 25 = .ok (.iload_n 2, 1) := by decide +kernel
theorem d_Wav_stepOn_26 : decode b_Wav_stepOn 26 = .ok (.iaload, 1) := by decide +kernel
theorem d_Wav_stepOn_27 : decode b_Wav_stepOn 27 = .ok (.laload, 1) := by decide +kernel
theorem d_Wav_stepOn_28 : decode b_Wav_stepOn 28 = .ok (.aload_n 0, 1) := by decide +kernel
theorem d_Wav_stepOn_29 : decode b_Wav_stepOn 29 = .ok (.getfield 9, 3) := by decide +kernel
theorem d_Wav_stepOn_32 : decode b_Wav_stepOn 32 = .ok (.aload_n 1, 1) := by decide +kernel
theorem d_Wav_stepOn_33 : decode b_Wav_stepOn 33 = .ok (.getfield 37, 3) := by decide +kernel
theorem d_Wav_stepOn_36 : decode b_Wav_stepOn 36 = .ok (.iload_n 2, 1) := by decide +kernel
theorem d_Wav_stepOn_37 : decode b_Wav_stepOn 37 = .ok (.iaload, 1) := by decide +kernel
theorem d_Wav_stepOn_38 : decode b_Wav_stepOn 38 = .ok (.laload, 1) := by decide +kernel
theorem d_Wav_stepOn_39 : decode b_Wav_stepOn 39 = .ok (.lsub, 1) := by decide +kernel
theorem d_Wav_stepOn_40 : decode b_Wav_stepOn 40 = .ok (.ladd, 1) := by decide +kernel
theorem d_Wav_stepOn_41 : decode b_Wav_stepOn 41 = .ok (.lastore, 1) := by decide +kernel
theorem d_Wav_stepOn_42 : decode b_Wav_stepOn 42 = .ok (.iinc 2 1, 3) := by decide +kernel
theorem d_Wav_stepOn_45 : decode b_Wav_stepOn 45 = .ok (.goto (-43), 3) := by decide +kernel
theorem d_Wav_stepOn_48 : decode b_Wav_stepOn 48 = .ok (.iconst 0, 1) := by decide +kernel
theorem d_Wav_stepOn_49 : decode b_Wav_stepOn 49 = .ok (.istore_n 2, 1) := by decide +kernel
theorem d_Wav_stepOn_50 : decode b_Wav_stepOn 50 = .ok (.iload_n 2, 1) := by decide +kernel
theorem d_Wav_stepOn_51 : decode b_Wav_stepOn 51 = .ok (.aload_n 1, 1) := by decide +kernel
theorem d_Wav_stepOn_52 : decode b_Wav_stepOn 52 = .ok (.getfield 28, 3) := by decide +kernel
theorem d_Wav_stepOn_55 : decode b_Wav_stepOn 55 = .ok (.if_icmp .ge 49, 3) := by decide +kernel
theorem d_Wav_stepOn_58 : decode b_Wav_stepOn 58 = .ok (.aload_n 0, 1) := by decide +kernel
theorem d_Wav_stepOn_59 : decode b_Wav_stepOn 59 = .ok (.getfield 9, 3) := by decide +kernel
theorem d_Wav_stepOn_62 : decode b_Wav_stepOn 62 = .ok (.aload_n 1, 1) := by decide +kernel
theorem d_Wav_stepOn_63 : decode b_Wav_stepOn 63 = .ok (.getfield 37, 3) := by decide +kernel
theorem d_Wav_stepOn_66 : decode b_Wav_stepOn 66 = .ok (.iload_n 2, 1) := by decide +kernel
theorem d_Wav_stepOn_67 : decode b_Wav_stepOn 67 = .ok (.iaload, 1) := by decide +kernel
theorem d_Wav_stepOn_68 : decode b_Wav_stepOn 68 = .ok (.dup2, 1) := by decide +kernel
theorem d_Wav_stepOn_69 : decode b_Wav_stepOn 69 = .ok (.laload, 1) := by decide +kernel
theorem d_Wav_stepOn_70 : decode b_Wav_stepOn 70 = .ok (.aload_n 0, 1) := by decide +kernel
theorem d_Wav_stepOn_71 : decode b_Wav_stepOn 71 = .ok (.getfield 15, 3) := by decide +kernel
theorem d_Wav_stepOn_74 : decode b_Wav_stepOn 74 = .ok (.iload_n 2, 1) := by decide +kernel
theorem d_Wav_stepOn_75 : decode b_Wav_stepOn 75 = .ok (.laload, 1) := by decide +kernel
theorem d_Wav_stepOn_76 : decode b_Wav_stepOn 76 = .ok (.ladd, 1) := by decide +kernel
theorem d_Wav_stepOn_77 : decode b_Wav_stepOn 77 = .ok (.lastore, 1) := by decide +kernel
theorem d_Wav_stepOn_78 : decode b_Wav_stepOn 78 = .ok (.aload_n 0, 1) := by decide +kernel
theorem d_Wav_stepOn_79 : decode b_Wav_stepOn 79 = .ok (.getfield 9, 3) := by decide +kernel
theorem d_Wav_stepOn_82 : decode b_Wav_stepOn 82 = .ok (.aload_n 1, 1) := by decide +kernel
theorem d_Wav_stepOn_83 : decode b_Wav_stepOn 83 = .ok (.getfield 33, 3) := by decide +kernel
theorem d_Wav_stepOn_86 : decode b_Wav_stepOn 86 = .ok (.iload_n 2, 1) := by decide +kernel
theorem d_Wav_stepOn_87 : decode b_Wav_stepOn 87 = .ok (.iaload, 1) := by decide +kernel
theorem d_Wav_stepOn_88 : decode b_Wav_stepOn 88 = .ok (.dup2, 1) := by decide +kernel
theorem d_Wav_stepOn_89 : decode b_Wav_stepOn 89 = .ok (.laload, 1) := by decide +kernel
theorem d_Wav_stepOn_90 : decode b_Wav_stepOn 90 = .ok (.aload_n 0, 1) := by decide +kernel
theorem d_Wav_stepOn_91 : decode b_Wav_stepOn 91 = .ok (.getfield 15, 3) := by decide +kernel
theorem d_Wav_stepOn_94 : decode b_Wav_stepOn 94 = .ok (.iload_n 2, 1) := by decide +kernel
theorem d_Wav_stepOn_95 : decode b_Wav_stepOn 95 = .ok (.laload, 1) := by decide +kernel
theorem d_Wav_stepOn_96 : decode b_Wav_stepOn 96 = .ok (.lsub, 1) := by decide +kernel
theorem d_Wav_stepOn_97 : decode b_Wav_stepOn 97 = .ok (.lastore, 1) := by decide +kernel
theorem d_Wav_stepOn_98 : decode b_Wav_stepOn 98 = .ok (.iinc 2 1, 3) := by decide +kernel
theorem d_Wav_stepOn_101 : decode b_Wav_stepOn 101 = .ok (.goto (-51), 3) := by decide +kernel
theorem d_Wav_stepOn_104 : decode b_Wav_stepOn 104 = .ok (.aload_n 0, 1) := by decide +kernel
theorem d_Wav_stepOn_105 : decode b_Wav_stepOn 105 = .ok (.dup, 1) := by decide +kernel
theorem d_Wav_stepOn_106 : decode b_Wav_stepOn 106 = .ok (.getfield 18, 3) := by decide +kernel
theorem d_Wav_stepOn_109 : decode b_Wav_stepOn 109 = .ok (.iconst 1, 1) := by decide +kernel
theorem d_Wav_stepOn_110 : decode b_Wav_stepOn 110 = .ok (.iadd, 1) := by decide +kernel
theorem d_Wav_stepOn_111 : decode b_Wav_stepOn 111 = .ok (.putfield 18, 3) := by decide +kernel
theorem d_Wav_stepOn_114 : decode b_Wav_stepOn 114 = .ok (.return_, 1) := by decide +kernel
def q_Wav_stepOn_L2 (kx48 : Mem → Prop) (post : Mem → Prop) : Nat → Int32 → Mem → Prop
  | 0, _, _ => False
  | n + 1, x2, M => ((M.1 1 1) ≤ x2 → kx48 M) ∧ (¬ (M.1 1 1) ≤ x2 → vp_in x2 12 ∧ (vp_in x2 12 ∧ (vp_in (M.1 2 x2.toNatClampNeg) 6 ∧ (vp_in x2 12 ∧ (vp_in (M.1 3 x2.toNatClampNeg) 6 ∧ (vp_in x2 12 ∧ (∀ M1, M1 = wJ M 14 x2.toNatClampNeg ((M.2 14 x2.toNatClampNeg) + ((M.2 13 (M.1 2 x2.toNatClampNeg).toNatClampNeg) - (M.2 13 (M.1 3 x2.toNatClampNeg).toNatClampNeg))) → q_Wav_stepOn_L2 kx48 post n (x2 + 1) M1)))))))
set_option maxHeartbeats 4000000 in
theorem s_Wav_stepOn_L2 {γ : Gm} {κ : Kp} {post : Mem → Prop} {kx48 : Mem → Prop} (C : Cx γ κ "NetForms$Wave" b_Wav_stepOn 3 0 (0, 0)) (R : Rt γ (none)) (hx48 : ∀ M', kx48 M' → G γ κ 3 (0, 0) (Gq γ κ (pV post)) 48 [(0, .ref (κ.1 + 12)), (1, .ref (κ.1 + 1))] [] M') : ∀ (n : Nat) (x2 : Int32) (M : Mem), q_Wav_stepOn_L2 kx48 post n x2 M → G γ κ 3 (0, 0) (Gq γ κ (pV post)) 2 [(0, .ref (κ.1 + 12)), (1, .ref (κ.1 + 1)), (2, .int x2)] [] M := by
  intro n
  induction n with
  | zero => intro x2 M hq; exact hq.elim
  | succ n ih =>
    intro x2 M hq
    unfold q_Wav_stepOn_L2 at hq
    refine G_iload_n C 2 d_Wav_stepOn_2 rfl rfl ?_
    refine G_aload_n C 1 d_Wav_stepOn_3 rfl rfl ?_
    refine Gg_Net_edges C wd_30 d_Wav_stepOn_4 ?_
    refine G_icmp_ge C (tgt := 48) d_Wav_stepOn_7 (by decide) (fun c => ?_) (fun c => ?_)
    · replace hq := hq.1 c
      exact G_sub [0, 1] (by rfl) (hx48 _ hq)
    · replace hq := hq.2 c
      refine G_aload_n C 0 d_Wav_stepOn_10 rfl rfl ?_
      refine Gg_Wav_flows C wd_95 d_Wav_stepOn_11 ?_
      refine G_iload_n C 2 d_Wav_stepOn_14 rfl rfl ?_
      refine G_dup2 C d_Wav_stepOn_15 rfl rfl ?_
      refine G_laload C (k := 14) (by decide) (fun _ _ => rfl) hq.1 d_Wav_stepOn_16 ?_
      replace hq := hq.2
      refine G_aload_n C 0 d_Wav_stepOn_17 rfl rfl ?_
      refine Gg_Wav_levels C wd_93 d_Wav_stepOn_18 ?_
      refine G_aload_n C 1 d_Wav_stepOn_21 rfl rfl ?_
      refine Gg_Net_begins C wd_36 d_Wav_stepOn_22 ?_
      refine G_iload_n C 2 d_Wav_stepOn_25 rfl rfl ?_
      refine G_iaload C (k := 2) (by decide) (fun _ _ => rfl) hq.1 d_Wav_stepOn_26 ?_
      replace hq := hq.2
      refine G_laload C (k := 13) (by decide) (fun _ _ => rfl) hq.1 d_Wav_stepOn_27 ?_
      replace hq := hq.2
      refine G_aload_n C 0 d_Wav_stepOn_28 rfl rfl ?_
      refine Gg_Wav_levels C wd_93 d_Wav_stepOn_29 ?_
      refine G_aload_n C 1 d_Wav_stepOn_32 rfl rfl ?_
      refine Gg_Net_ends C wd_40 d_Wav_stepOn_33 ?_
      refine G_iload_n C 2 d_Wav_stepOn_36 rfl rfl ?_
      refine G_iaload C (k := 3) (by decide) (fun _ _ => rfl) hq.1 d_Wav_stepOn_37 ?_
      replace hq := hq.2
      refine G_laload C (k := 13) (by decide) (fun _ _ => rfl) hq.1 d_Wav_stepOn_38 ?_
      replace hq := hq.2
      refine G_lsub C d_Wav_stepOn_39 ?_
      refine G_ladd C d_Wav_stepOn_40 ?_
      refine G_lastore C (k := 14) (by decide) (fun _ _ => rfl) hq.1 d_Wav_stepOn_41 ?_
      replace hq := hq.2 _ rfl
      refine G_iinc C (v := _ + 1) (lv' := [(2, _), (0, _), (1, _)]) 2 d_Wav_stepOn_42 rfl rfl (by decide) rfl ?_
      refine G_goto C (tgt := 2) d_Wav_stepOn_45 (by decide) ?_
      exact G_sub [1, 2, 0] (by rfl) (ih _ _ hq)
def q_Wav_stepOn_L50 (kx104 : Mem → Prop) (post : Mem → Prop) : Nat → Int32 → Mem → Prop
  | 0, _, _ => False
  | n + 1, x2, M => ((M.1 1 1) ≤ x2 → kx104 M) ∧ (¬ (M.1 1 1) ≤ x2 → vp_in x2 12 ∧ (vp_in (M.1 3 x2.toNatClampNeg) 6 ∧ (vp_in x2 12 ∧ (vp_in (M.1 3 x2.toNatClampNeg) 6 ∧ (∀ M4, M4 = wJ M 13 (M.1 3 x2.toNatClampNeg).toNatClampNeg ((M.2 13 (M.1 3 x2.toNatClampNeg).toNatClampNeg) + (M.2 14 x2.toNatClampNeg)) → vp_in x2 12 ∧ (vp_in (M4.1 2 x2.toNatClampNeg) 6 ∧ (vp_in x2 12 ∧ (vp_in (M4.1 2 x2.toNatClampNeg) 6 ∧ (∀ M5, M5 = wJ M4 13 (M4.1 2 x2.toNatClampNeg).toNatClampNeg ((M4.2 13 (M4.1 2 x2.toNatClampNeg).toNatClampNeg) - (M4.2 14 x2.toNatClampNeg)) → q_Wav_stepOn_L50 kx104 post n (x2 + 1) M5)))))))))
set_option maxHeartbeats 4000000 in
theorem s_Wav_stepOn_L50 {γ : Gm} {κ : Kp} {post : Mem → Prop} {kx104 : Mem → Prop} (C : Cx γ κ "NetForms$Wave" b_Wav_stepOn 3 0 (0, 0)) (R : Rt γ (none)) (hx104 : ∀ M', kx104 M' → G γ κ 3 (0, 0) (Gq γ κ (pV post)) 104 [(0, .ref (κ.1 + 12))] [] M') : ∀ (n : Nat) (x2 : Int32) (M : Mem), q_Wav_stepOn_L50 kx104 post n x2 M → G γ κ 3 (0, 0) (Gq γ κ (pV post)) 50 [(0, .ref (κ.1 + 12)), (1, .ref (κ.1 + 1)), (2, .int x2)] [] M := by
  intro n
  induction n with
  | zero => intro x2 M hq; exact hq.elim
  | succ n ih =>
    intro x2 M hq
    unfold q_Wav_stepOn_L50 at hq
    refine G_iload_n C 2 d_Wav_stepOn_50 rfl rfl ?_
    refine G_aload_n C 1 d_Wav_stepOn_51 rfl rfl ?_
    refine Gg_Net_edges C wd_30 d_Wav_stepOn_52 ?_
    refine G_icmp_ge C (tgt := 104) d_Wav_stepOn_55 (by decide) (fun c => ?_) (fun c => ?_)
    · replace hq := hq.1 c
      exact G_sub [0] (by rfl) (hx104 _ hq)
    · replace hq := hq.2 c
      refine G_aload_n C 0 d_Wav_stepOn_58 rfl rfl ?_
      refine Gg_Wav_levels C wd_93 d_Wav_stepOn_59 ?_
      refine G_aload_n C 1 d_Wav_stepOn_62 rfl rfl ?_
      refine Gg_Net_ends C wd_40 d_Wav_stepOn_63 ?_
      refine G_iload_n C 2 d_Wav_stepOn_66 rfl rfl ?_
      refine G_iaload C (k := 3) (by decide) (fun _ _ => rfl) hq.1 d_Wav_stepOn_67 ?_
      replace hq := hq.2
      refine G_dup2 C d_Wav_stepOn_68 rfl rfl ?_
      refine G_laload C (k := 13) (by decide) (fun _ _ => rfl) hq.1 d_Wav_stepOn_69 ?_
      replace hq := hq.2
      refine G_aload_n C 0 d_Wav_stepOn_70 rfl rfl ?_
      refine Gg_Wav_flows C wd_95 d_Wav_stepOn_71 ?_
      refine G_iload_n C 2 d_Wav_stepOn_74 rfl rfl ?_
      refine G_laload C (k := 14) (by decide) (fun _ _ => rfl) hq.1 d_Wav_stepOn_75 ?_
      replace hq := hq.2
      refine G_ladd C d_Wav_stepOn_76 ?_
      refine G_lastore C (k := 13) (by decide) (fun _ _ => rfl) hq.1 d_Wav_stepOn_77 ?_
      replace hq := hq.2 _ rfl
      refine G_aload_n C 0 d_Wav_stepOn_78 rfl rfl ?_
      refine Gg_Wav_levels C wd_93 d_Wav_stepOn_79 ?_
      refine G_aload_n C 1 d_Wav_stepOn_82 rfl rfl ?_
      refine Gg_Net_begins C wd_36 d_Wav_stepOn_83 ?_
      refine G_iload_n C 2 d_Wav_stepOn_86 rfl rfl ?_
      refine G_iaload C (k := 2) (by decide) (fun _ _ => rfl) hq.1 d_Wav_stepOn_87 ?_
      replace hq := hq.2
      refine G_dup2 C d_Wav_stepOn_88 rfl rfl ?_
      refine G_laload C (k := 13) (by decide) (fun _ _ => rfl) hq.1 d_Wav_stepOn_89 ?_
      replace hq := hq.2
      refine G_aload_n C 0 d_Wav_stepOn_90 rfl rfl ?_
      refine Gg_Wav_flows C wd_95 d_Wav_stepOn_91 ?_
      refine G_iload_n C 2 d_Wav_stepOn_94 rfl rfl ?_
      refine G_laload C (k := 14) (by decide) (fun _ _ => rfl) hq.1 d_Wav_stepOn_95 ?_
      replace hq := hq.2
      refine G_lsub C d_Wav_stepOn_96 ?_
      refine G_lastore C (k := 13) (by decide) (fun _ _ => rfl) hq.1 d_Wav_stepOn_97 ?_
      replace hq := hq.2 _ rfl
      refine G_iinc C (v := _ + 1) (lv' := [(2, _), (0, _), (1, _)]) 2 d_Wav_stepOn_98 rfl rfl (by decide) rfl ?_
      refine G_goto C (tgt := 50) d_Wav_stepOn_101 (by decide) ?_
      exact G_sub [1, 2, 0] (by rfl) (ih _ _ hq)
def q_Wav_stepOn (M : Mem) (post : Mem → Prop) : Prop := ∃ n2, q_Wav_stepOn_L2 (fun M3 => ∃ n6, q_Wav_stepOn_L50 (fun M7 => ∀ M8, M8 = wI M7 12 0 ((M7.1 12 0) + (1 : Int32)) → post M8) post n6 (0 : Int32) M3) post n2 (0 : Int32) M
set_option maxHeartbeats 4000000 in
theorem s_Wav_stepOn {l : Launch} {κ : Kp} {M : Mem} {post : Mem → Prop} (hq : q_Wav_stepOn M post) : Ct l κ y_Wav_stepOn b_Wav_stepOn 3 (none) 0 [.ref (κ.1 + 12), .ref (κ.1 + 1)] M (pV post) := by
  refine Ct_of (by decide) (Nat.le_of_ble_eq_true rfl) (fun γ hγ C R => ?_)
  subst hγ
  unfold q_Wav_stepOn at hq
  show G γ κ 3 (0, 0) (Gq γ κ (pV post)) 0 [(0, .ref (κ.1 + 12)), (1, .ref (κ.1 + 1))] [] M
  refine G_iconst C (v := 0) d_Wav_stepOn_0 (by decide) ?_
  refine G_istore_n C (lv' := [(2, _), (0, _), (1, _)]) d_Wav_stepOn_1 rfl (by decide) rfl ?_
  obtain ⟨n2, hq⟩ := hq
  refine G_sub [1, 2, 0] (by rfl) (s_Wav_stepOn_L2 C R ?_ n2 _ _ hq)
  · intro M3 hq
    refine G_iconst C (v := 0) d_Wav_stepOn_48 (by decide) ?_
    refine G_istore_n C (lv' := [(2, _), (0, _), (1, _)]) d_Wav_stepOn_49 rfl (by decide) rfl ?_
    obtain ⟨n6, hq⟩ := hq
    refine G_sub [1, 2, 0] (by rfl) (s_Wav_stepOn_L50 C R ?_ n6 _ _ hq)
    · intro M7 hq
      refine G_aload_n C 0 d_Wav_stepOn_104 rfl rfl ?_
      refine G_dup C d_Wav_stepOn_105 rfl ?_
      refine Gg_Wav_steps C wd_91 d_Wav_stepOn_106 ?_
      refine G_iconst C (v := 1) d_Wav_stepOn_109 (by decide) ?_
      refine G_iadd C d_Wav_stepOn_110 ?_
      refine Gp_Wav_steps C wd_91 d_Wav_stepOn_111 ?_
      replace hq := hq _ rfl
      exact G_vret C R d_Wav_stepOn_114 ⟨rfl, hq⟩
theorem d_Wav_stepBack_0 : decode b_Wav_stepBack 0 = .ok (.iconst 0, 1) := by decide +kernel
theorem d_Wav_stepBack_1 : decode b_Wav_stepBack 1 = .ok (.istore_n 2, 1) := by decide +kernel
theorem d_Wav_stepBack_2 : decode b_Wav_stepBack 2 = .ok (.iload_n 2, 1) := by decide +kernel
theorem d_Wav_stepBack_3 : decode b_Wav_stepBack 3 = .ok (.aload_n 1, 1) := by decide +kernel
theorem d_Wav_stepBack_4 : decode b_Wav_stepBack 4 = .ok (.getfield 28, 3) := by decide +kernel
theorem d_Wav_stepBack_7 : decode b_Wav_stepBack 7 = .ok (.if_icmp .ge 49, 3) := by decide +kernel
theorem d_Wav_stepBack_10 : decode b_Wav_stepBack 10 = .ok (.aload_n 0, 1) := by decide +kernel
theorem d_Wav_stepBack_11 : decode b_Wav_stepBack 11 = .ok (.getfield 9, 3) := by decide +kernel
theorem d_Wav_stepBack_14 : decode b_Wav_stepBack 14 = .ok (.aload_n 1, 1) := by decide +kernel
theorem d_Wav_stepBack_15 : decode b_Wav_stepBack 15 = .ok (.getfield 37, 3) := by decide +kernel
theorem d_Wav_stepBack_18 : decode b_Wav_stepBack 18 = .ok (.iload_n 2, 1) := by decide +kernel
theorem d_Wav_stepBack_19 : decode b_Wav_stepBack 19 = .ok (.iaload, 1) := by decide +kernel
theorem d_Wav_stepBack_20 : decode b_Wav_stepBack 20 = .ok (.dup2, 1) := by decide +kernel
theorem d_Wav_stepBack_21 : decode b_Wav_stepBack 21 = .ok (.laload, 1) := by decide +kernel
theorem d_Wav_stepBack_22 : decode b_Wav_stepBack 22 = .ok (.aload_n 0, 1) := by decide +kernel
theorem d_Wav_stepBack_23 : decode b_Wav_stepBack 23 = .ok (.getfield 15, 3) := by decide +kernel
theorem d_Wav_stepBack_26 : decode b_Wav_stepBack 26 = .ok (.iload_n 2, 1) := by decide +kernel
theorem d_Wav_stepBack_27 : decode b_Wav_stepBack 27 = .ok (.laload, 1) := by decide +kernel
theorem d_Wav_stepBack_28 : decode b_Wav_stepBack 28 = .ok (.lsub, 1) := by decide +kernel
theorem d_Wav_stepBack_29 : decode b_Wav_stepBack 29 = .ok (.lastore, 1) := by decide +kernel
theorem d_Wav_stepBack_30 : decode b_Wav_stepBack 30 = .ok (.aload_n 0, 1) := by decide +kernel
theorem d_Wav_stepBack_31 : decode b_Wav_stepBack 31 = .ok (.getfield 9, 3) := by decide +kernel
theorem d_Wav_stepBack_34 : decode b_Wav_stepBack 34 = .ok (.aload_n 1, 1) := by decide +kernel
theorem d_Wav_stepBack_35 : decode b_Wav_stepBack 35 = .ok (.getfield 33, 3) := by decide +kernel
theorem d_Wav_stepBack_38 : decode b_Wav_stepBack 38 = .ok (.iload_n 2, 1) := by decide +kernel
theorem d_Wav_stepBack_39 : decode b_Wav_stepBack 39 = .ok (.iaload, 1) := by decide +kernel
theorem d_Wav_stepBack_40 : decode b_Wav_stepBack 40 = .ok (.dup2, 1) := by decide +kernel
theorem d_Wav_stepBack_41 : decode b_Wav_stepBack 41 = .ok (.laload, 1) := by decide +kernel
theorem d_Wav_stepBack_42 : decode b_Wav_stepBack 42 = .ok (.aload_n 0, 1) := by decide +kernel
theorem d_Wav_stepBack_43 : decode b_Wav_stepBack 43 = .ok (.getfield 15, 3) := by decide +kernel
theorem d_Wav_stepBack_46 : decode b_Wav_stepBack 46 = .ok (.iload_n 2, 1) := by decide +kernel
theorem d_Wav_stepBack_47 : decode b_Wav_stepBack 47 = .ok (.laload, 1) := by decide +kernel
theorem d_Wav_stepBack_48 : decode b_Wav_stepBack 48 = .ok (.ladd, 1) := by decide +kernel
theorem d_Wav_stepBack_49 : decode b_Wav_stepBack 49 = .ok (.lastore, 1) := by decide +kernel
theorem d_Wav_stepBack_50 : decode b_Wav_stepBack 50 = .ok (.iinc 2 1, 3) := by decide +kernel
theorem d_Wav_stepBack_53 : decode b_Wav_stepBack 53 = .ok (.goto (-51), 3) := by decide +kernel
theorem d_Wav_stepBack_56 : decode b_Wav_stepBack 56 = .ok (.iconst 0, 1) := by decide +kernel
theorem d_Wav_stepBack_57 : decode b_Wav_stepBack 57 = .ok (.istore_n 2, 1) := by decide +kernel
theorem d_Wav_stepBack_58 : decode b_Wav_stepBack 58 = .ok (.iload_n 2, 1) := by decide +kernel
theorem d_Wav_stepBack_59 : decode b_Wav_stepBack 59 = .ok (.aload_n 1, 1) := by decide +kernel
theorem d_Wav_stepBack_60 : decode b_Wav_stepBack 60 = .ok (.getfield 28, 3) := by decide +kernel
theorem d_Wav_stepBack_63 : decode b_Wav_stepBack 63 = .ok (.if_icmp .ge 41, 3) := by decide +kernel
theorem d_Wav_stepBack_66 : decode b_Wav_stepBack 66 = .ok (.aload_n 0, 1) := by decide +kernel
theorem d_Wav_stepBack_67 : decode b_Wav_stepBack 67 = .ok (.getfield 15, 3) := by decide +kernel
theorem d_Wav_stepBack_70 : decode b_Wav_stepBack 70 = .ok (.iload_n 2, 1) := by decide +kernel
theorem d_Wav_stepBack_71 : decode b_Wav_stepBack 71 = .ok (.dup2, 1) := by decide +kernel
theorem d_Wav_stepBack_72 : decode b_Wav_stepBack 72 = .ok (.laload, 1) := by decide +kernel
theorem d_Wav_stepBack_73 : decode b_Wav_stepBack 73 = .ok (.aload_n 0, 1) := by decide +kernel
theorem d_Wav_stepBack_74 : decode b_Wav_stepBack 74 = .ok (.getfield 9, 3) := by decide +kernel
theorem d_Wav_stepBack_77 : decode b_Wav_stepBack 77 = .ok (.aload_n 1, 1) := by decide +kernel
theorem d_Wav_stepBack_78 : decode b_Wav_stepBack 78 = .ok (.getfield 33, 3) := by decide +kernel
theorem d_Wav_stepBack_81 : decode b_Wav_stepBack 81 = .ok (.iload_n 2, 1) := by decide +kernel
theorem d_Wav_stepBack_82 : decode b_Wav_stepBack 82 = .ok (.iaload, 1) := by decide +kernel
theorem d_Wav_stepBack_83 : decode b_Wav_stepBack 83 = .ok (.laload, 1) := by decide +kernel
theorem d_Wav_stepBack_84 : decode b_Wav_stepBack 84 = .ok (.aload_n 0, 1) := by decide +kernel
theorem d_Wav_stepBack_85 : decode b_Wav_stepBack 85 = .ok (.getfield 9, 3) := by decide +kernel
theorem d_Wav_stepBack_88 : decode b_Wav_stepBack 88 = .ok (.aload_n 1, 1) := by decide +kernel
theorem d_Wav_stepBack_89 : decode b_Wav_stepBack 89 = .ok (.getfield 37, 3) := by decide +kernel
theorem d_Wav_stepBack_92 : decode b_Wav_stepBack 92 = .ok (.iload_n 2, 1) := by decide +kernel
theorem d_Wav_stepBack_93 : decode b_Wav_stepBack 93 = .ok (.iaload, 1) := by decide +kernel
theorem d_Wav_stepBack_94 : decode b_Wav_stepBack 94 = .ok (.laload, 1) := by decide +kernel
theorem d_Wav_stepBack_95 : decode b_Wav_stepBack 95 = .ok (.lsub, 1) := by decide +kernel
theorem d_Wav_stepBack_96 : decode b_Wav_stepBack 96 = .ok (.lsub, 1) := by decide +kernel
theorem d_Wav_stepBack_97 : decode b_Wav_stepBack 97 = .ok (.lastore, 1) := by decide +kernel
theorem d_Wav_stepBack_98 : decode b_Wav_stepBack 98 = .ok (.iinc 2 1, 3) := by decide +kernel
theorem d_Wav_stepBack_101 : decode b_Wav_stepBack 101 = .ok (.goto (-43), 3) := by decide +kernel
theorem d_Wav_stepBack_104 : decode b_Wav_stepBack 104 = .ok (.aload_n 0, 1) := by decide +kernel
theorem d_Wav_stepBack_105 : decode b_Wav_stepBack 105 = .ok (.dup, 1) := by decide +kernel
theorem d_Wav_stepBack_106 : decode b_Wav_stepBack 106 = .ok (.getfield 18, 3) := by decide +kernel
theorem d_Wav_stepBack_109 : decode b_Wav_stepBack 109 = .ok (.iconst 1, 1) := by decide +kernel
theorem d_Wav_stepBack_110 : decode b_Wav_stepBack 110 = .ok (.isub, 1) := by decide +kernel
theorem d_Wav_stepBack_111 : decode b_Wav_stepBack 111 = .ok (.putfield 18, 3) := by decide +kernel
theorem d_Wav_stepBack_114 : decode b_Wav_stepBack 114 = .ok (.return_, 1) := by decide +kernel
def q_Wav_stepBack_L2 (kx56 : Mem → Prop) (post : Mem → Prop) : Nat → Int32 → Mem → Prop
  | 0, _, _ => False
  | n + 1, x2, M => ((M.1 1 1) ≤ x2 → kx56 M) ∧ (¬ (M.1 1 1) ≤ x2 → vp_in x2 12 ∧ (vp_in (M.1 3 x2.toNatClampNeg) 6 ∧ (vp_in x2 12 ∧ (vp_in (M.1 3 x2.toNatClampNeg) 6 ∧ (∀ M1, M1 = wJ M 13 (M.1 3 x2.toNatClampNeg).toNatClampNeg ((M.2 13 (M.1 3 x2.toNatClampNeg).toNatClampNeg) - (M.2 14 x2.toNatClampNeg)) → vp_in x2 12 ∧ (vp_in (M1.1 2 x2.toNatClampNeg) 6 ∧ (vp_in x2 12 ∧ (vp_in (M1.1 2 x2.toNatClampNeg) 6 ∧ (∀ M2, M2 = wJ M1 13 (M1.1 2 x2.toNatClampNeg).toNatClampNeg ((M1.2 13 (M1.1 2 x2.toNatClampNeg).toNatClampNeg) + (M1.2 14 x2.toNatClampNeg)) → q_Wav_stepBack_L2 kx56 post n (x2 + 1) M2)))))))))
set_option maxHeartbeats 4000000 in
theorem s_Wav_stepBack_L2 {γ : Gm} {κ : Kp} {post : Mem → Prop} {kx56 : Mem → Prop} (C : Cx γ κ "NetForms$Wave" b_Wav_stepBack 3 0 (0, 0)) (R : Rt γ (none)) (hx56 : ∀ M', kx56 M' → G γ κ 3 (0, 0) (Gq γ κ (pV post)) 56 [(0, .ref (κ.1 + 12)), (1, .ref (κ.1 + 1))] [] M') : ∀ (n : Nat) (x2 : Int32) (M : Mem), q_Wav_stepBack_L2 kx56 post n x2 M → G γ κ 3 (0, 0) (Gq γ κ (pV post)) 2 [(0, .ref (κ.1 + 12)), (1, .ref (κ.1 + 1)), (2, .int x2)] [] M := by
  intro n
  induction n with
  | zero => intro x2 M hq; exact hq.elim
  | succ n ih =>
    intro x2 M hq
    unfold q_Wav_stepBack_L2 at hq
    refine G_iload_n C 2 d_Wav_stepBack_2 rfl rfl ?_
    refine G_aload_n C 1 d_Wav_stepBack_3 rfl rfl ?_
    refine Gg_Net_edges C wd_30 d_Wav_stepBack_4 ?_
    refine G_icmp_ge C (tgt := 56) d_Wav_stepBack_7 (by decide) (fun c => ?_) (fun c => ?_)
    · replace hq := hq.1 c
      exact G_sub [0, 1] (by rfl) (hx56 _ hq)
    · replace hq := hq.2 c
      refine G_aload_n C 0 d_Wav_stepBack_10 rfl rfl ?_
      refine Gg_Wav_levels C wd_93 d_Wav_stepBack_11 ?_
      refine G_aload_n C 1 d_Wav_stepBack_14 rfl rfl ?_
      refine Gg_Net_ends C wd_40 d_Wav_stepBack_15 ?_
      refine G_iload_n C 2 d_Wav_stepBack_18 rfl rfl ?_
      refine G_iaload C (k := 3) (by decide) (fun _ _ => rfl) hq.1 d_Wav_stepBack_19 ?_
      replace hq := hq.2
      refine G_dup2 C d_Wav_stepBack_20 rfl rfl ?_
      refine G_laload C (k := 13) (by decide) (fun _ _ => rfl) hq.1 d_Wav_stepBack_21 ?_
      replace hq := hq.2
      refine G_aload_n C 0 d_Wav_stepBack_22 rfl rfl ?_
      refine Gg_Wav_flows C wd_95 d_Wav_stepBack_23 ?_
      refine G_iload_n C 2 d_Wav_stepBack_26 rfl rfl ?_
      refine G_laload C (k := 14) (by decide) (fun _ _ => rfl) hq.1 d_Wav_stepBack_27 ?_
      replace hq := hq.2
      refine G_lsub C d_Wav_stepBack_28 ?_
      refine G_lastore C (k := 13) (by decide) (fun _ _ => rfl) hq.1 d_Wav_stepBack_29 ?_
      replace hq := hq.2 _ rfl
      refine G_aload_n C 0 d_Wav_stepBack_30 rfl rfl ?_
      refine Gg_Wav_levels C wd_93 d_Wav_stepBack_31 ?_
      refine G_aload_n C 1 d_Wav_stepBack_34 rfl rfl ?_
      refine Gg_Net_begins C wd_36 d_Wav_stepBack_35 ?_
      refine G_iload_n C 2 d_Wav_stepBack_38 rfl rfl ?_
      refine G_iaload C (k := 2) (by decide) (fun _ _ => rfl) hq.1 d_Wav_stepBack_39 ?_
      replace hq := hq.2
      refine G_dup2 C d_Wav_stepBack_40 rfl rfl ?_
      refine G_laload C (k := 13) (by decide) (fun _ _ => rfl) hq.1 d_Wav_stepBack_41 ?_
      replace hq := hq.2
      refine G_aload_n C 0 d_Wav_stepBack_42 rfl rfl ?_
      refine Gg_Wav_flows C wd_95 d_Wav_stepBack_43 ?_
      refine G_iload_n C 2 d_Wav_stepBack_46 rfl rfl ?_
      refine G_laload C (k := 14) (by decide) (fun _ _ => rfl) hq.1 d_Wav_stepBack_47 ?_
      replace hq := hq.2
      refine G_ladd C d_Wav_stepBack_48 ?_
      refine G_lastore C (k := 13) (by decide) (fun _ _ => rfl) hq.1 d_Wav_stepBack_49 ?_
      replace hq := hq.2 _ rfl
      refine G_iinc C (v := _ + 1) (lv' := [(2, _), (0, _), (1, _)]) 2 d_Wav_stepBack_50 rfl rfl (by decide) rfl ?_
      refine G_goto C (tgt := 2) d_Wav_stepBack_53 (by decide) ?_
      exact G_sub [1, 2, 0] (by rfl) (ih _ _ hq)
def q_Wav_stepBack_L58 (kx104 : Mem → Prop) (post : Mem → Prop) : Nat → Int32 → Mem → Prop
  | 0, _, _ => False
  | n + 1, x2, M => ((M.1 1 1) ≤ x2 → kx104 M) ∧ (¬ (M.1 1 1) ≤ x2 → vp_in x2 12 ∧ (vp_in x2 12 ∧ (vp_in (M.1 2 x2.toNatClampNeg) 6 ∧ (vp_in x2 12 ∧ (vp_in (M.1 3 x2.toNatClampNeg) 6 ∧ (vp_in x2 12 ∧ (∀ M5, M5 = wJ M 14 x2.toNatClampNeg ((M.2 14 x2.toNatClampNeg) - ((M.2 13 (M.1 2 x2.toNatClampNeg).toNatClampNeg) - (M.2 13 (M.1 3 x2.toNatClampNeg).toNatClampNeg))) → q_Wav_stepBack_L58 kx104 post n (x2 + 1) M5)))))))
set_option maxHeartbeats 4000000 in
theorem s_Wav_stepBack_L58 {γ : Gm} {κ : Kp} {post : Mem → Prop} {kx104 : Mem → Prop} (C : Cx γ κ "NetForms$Wave" b_Wav_stepBack 3 0 (0, 0)) (R : Rt γ (none)) (hx104 : ∀ M', kx104 M' → G γ κ 3 (0, 0) (Gq γ κ (pV post)) 104 [(0, .ref (κ.1 + 12))] [] M') : ∀ (n : Nat) (x2 : Int32) (M : Mem), q_Wav_stepBack_L58 kx104 post n x2 M → G γ κ 3 (0, 0) (Gq γ κ (pV post)) 58 [(0, .ref (κ.1 + 12)), (1, .ref (κ.1 + 1)), (2, .int x2)] [] M := by
  intro n
  induction n with
  | zero => intro x2 M hq; exact hq.elim
  | succ n ih =>
    intro x2 M hq
    unfold q_Wav_stepBack_L58 at hq
    refine G_iload_n C 2 d_Wav_stepBack_58 rfl rfl ?_
    refine G_aload_n C 1 d_Wav_stepBack_59 rfl rfl ?_
    refine Gg_Net_edges C wd_30 d_Wav_stepBack_60 ?_
    refine G_icmp_ge C (tgt := 104) d_Wav_stepBack_63 (by decide) (fun c => ?_) (fun c => ?_)
    · replace hq := hq.1 c
      exact G_sub [0] (by rfl) (hx104 _ hq)
    · replace hq := hq.2 c
      refine G_aload_n C 0 d_Wav_stepBack_66 rfl rfl ?_
      refine Gg_Wav_flows C wd_95 d_Wav_stepBack_67 ?_
      refine G_iload_n C 2 d_Wav_stepBack_70 rfl rfl ?_
      refine G_dup2 C d_Wav_stepBack_71 rfl rfl ?_
      refine G_laload C (k := 14) (by decide) (fun _ _ => rfl) hq.1 d_Wav_stepBack_72 ?_
      replace hq := hq.2
      refine G_aload_n C 0 d_Wav_stepBack_73 rfl rfl ?_
      refine Gg_Wav_levels C wd_93 d_Wav_stepBack_74 ?_
      refine G_aload_n C 1 d_Wav_stepBack_77 rfl rfl ?_
      refine Gg_Net_begins C wd_36 d_Wav_stepBack_78 ?_
      refine G_iload_n C 2 d_Wav_stepBack_81 rfl rfl ?_
      refine G_iaload C (k := 2) (by decide) (fun _ _ => rfl) hq.1 d_Wav_stepBack_82 ?_
      replace hq := hq.2
      refine G_laload C (k := 13) (by decide) (fun _ _ => rfl) hq.1 d_Wav_stepBack_83 ?_
      replace hq := hq.2
      refine G_aload_n C 0 d_Wav_stepBack_84 rfl rfl ?_
      refine Gg_Wav_levels C wd_93 d_Wav_stepBack_85 ?_
      refine G_aload_n C 1 d_Wav_stepBack_88 rfl rfl ?_
      refine Gg_Net_ends C wd_40 d_Wav_stepBack_89 ?_
      refine G_iload_n C 2 d_Wav_stepBack_92 rfl rfl ?_
      refine G_iaload C (k := 3) (by decide) (fun _ _ => rfl) hq.1 d_Wav_stepBack_93 ?_
      replace hq := hq.2
      refine G_laload C (k := 13) (by decide) (fun _ _ => rfl) hq.1 d_Wav_stepBack_94 ?_
      replace hq := hq.2
      refine G_lsub C d_Wav_stepBack_95 ?_
      refine G_lsub C d_Wav_stepBack_96 ?_
      refine G_lastore C (k := 14) (by decide) (fun _ _ => rfl) hq.1 d_Wav_stepBack_97 ?_
      replace hq := hq.2 _ rfl
      refine G_iinc C (v := _ + 1) (lv' := [(2, _), (0, _), (1, _)]) 2 d_Wav_stepBack_98 rfl rfl (by decide) rfl ?_
      refine G_goto C (tgt := 58) d_Wav_stepBack_101 (by decide) ?_
      exact G_sub [1, 2, 0] (by rfl) (ih _ _ hq)
def q_Wav_stepBack (M : Mem) (post : Mem → Prop) : Prop := ∃ n3, q_Wav_stepBack_L2 (fun M4 => ∃ n6, q_Wav_stepBack_L58 (fun M7 => ∀ M8, M8 = wI M7 12 0 ((M7.1 12 0) - (1 : Int32)) → post M8) post n6 (0 : Int32) M4) post n3 (0 : Int32) M
set_option maxHeartbeats 4000000 in
theorem s_Wav_stepBack {l : Launch} {κ : Kp} {M : Mem} {post : Mem → Prop} (hq : q_Wav_stepBack M post) : Ct l κ y_Wav_stepBack b_Wav_stepBack 3 (none) 0 [.ref (κ.1 + 12), .ref (κ.1 + 1)] M (pV post) := by
  refine Ct_of (by decide) (Nat.le_of_ble_eq_true rfl) (fun γ hγ C R => ?_)
  subst hγ
  unfold q_Wav_stepBack at hq
  show G γ κ 3 (0, 0) (Gq γ κ (pV post)) 0 [(0, .ref (κ.1 + 12)), (1, .ref (κ.1 + 1))] [] M
  refine G_iconst C (v := 0) d_Wav_stepBack_0 (by decide) ?_
  refine G_istore_n C (lv' := [(2, _), (0, _), (1, _)]) d_Wav_stepBack_1 rfl (by decide) rfl ?_
  obtain ⟨n3, hq⟩ := hq
  refine G_sub [1, 2, 0] (by rfl) (s_Wav_stepBack_L2 C R ?_ n3 _ _ hq)
  · intro M4 hq
    refine G_iconst C (v := 0) d_Wav_stepBack_56 (by decide) ?_
    refine G_istore_n C (lv' := [(2, _), (0, _), (1, _)]) d_Wav_stepBack_57 rfl (by decide) rfl ?_
    obtain ⟨n6, hq⟩ := hq
    refine G_sub [1, 2, 0] (by rfl) (s_Wav_stepBack_L58 C R ?_ n6 _ _ hq)
    · intro M7 hq
      refine G_aload_n C 0 d_Wav_stepBack_104 rfl rfl ?_
      refine G_dup C d_Wav_stepBack_105 rfl ?_
      refine Gg_Wav_steps C wd_91 d_Wav_stepBack_106 ?_
      refine G_iconst C (v := 1) d_Wav_stepBack_109 (by decide) ?_
      refine G_isub C d_Wav_stepBack_110 ?_
      refine Gp_Wav_steps C wd_91 d_Wav_stepBack_111 ?_
      replace hq := hq _ rfl
      exact G_vret C R d_Wav_stepBack_114 ⟨rfl, hq⟩
theorem d_Nf_sum_0 : decode b_Nf_sum 0 = .ok (.lconst 0, 1) := by decide +kernel
theorem d_Nf_sum_1 : decode b_Nf_sum 1 = .ok (.lstore_n 1, 1) := by decide +kernel
theorem d_Nf_sum_2 : decode b_Nf_sum 2 = .ok (.iconst 0, 1) := by decide +kernel
theorem d_Nf_sum_3 : decode b_Nf_sum 3 = .ok (.istore_n 3, 1) := by decide +kernel
theorem d_Nf_sum_4 : decode b_Nf_sum 4 = .ok (.iload_n 3, 1) := by decide +kernel
theorem d_Nf_sum_5 : decode b_Nf_sum 5 = .ok (.aload_n 0, 1) := by decide +kernel
theorem d_Nf_sum_6 : decode b_Nf_sum 6 = .ok (.getfield 10, 3) := by decide +kernel
theorem d_Nf_sum_9 : decode b_Nf_sum 9 = .ok (.getfield 147, 3) := by decide +kernel
theorem d_Nf_sum_12 : decode b_Nf_sum 12 = .ok (.if_icmp .ge 21, 3) := by decide +kernel
theorem d_Nf_sum_15 : decode b_Nf_sum 15 = .ok (.lload_n 1, 1) := by decide +kernel
theorem d_Nf_sum_16 : decode b_Nf_sum 16 = .ok (.aload_n 0, 1) := by decide +kernel
theorem d_Nf_sum_17 : decode b_Nf_sum 17 = .ok (.getfield 32, 3) := by decide +kernel
theorem d_Nf_sum_20 : decode b_Nf_sum 20 = .ok (.getfield 205, 3) := by decide +kernel
theorem d_Nf_sum_23 : decode b_Nf_sum 23 = .ok (.iload_n 3, 1) := by decide +kernel
theorem d_Nf_sum_24 : decode b_Nf_sum 24 = .ok (.laload, 1) := by decide +kernel
theorem d_Nf_sum_25 : decode b_Nf_sum 25 = .ok (.ladd, 1) := by decide +kernel
theorem d_Nf_sum_26 : decode b_Nf_sum 26 = .ok (.lstore_n 1, 1) := by decide +kernel
theorem d_Nf_sum_27 : decode b_Nf_sum 27 = .ok (.iinc 3 1, 3) := by decide +kernel
theorem d_Nf_sum_30 : decode b_Nf_sum 30 = .ok (.goto (-26), 3) := by decide +kernel
theorem d_Nf_sum_33 : decode b_Nf_sum 33 = .ok (.lload_n 1, 1) := by decide +kernel
theorem d_Nf_sum_34 : decode b_Nf_sum 34 = .ok (.lreturn, 1) := by decide +kernel
def q_Nf_sum_L4 (kx33 : Int64 → Mem → Prop) (post : Int64 → Mem → Prop) : Nat → Int64 → Int32 → Mem → Prop
  | 0, _, _, _ => False
  | n + 1, x1, x3, M => ((M.1 1 0) ≤ x3 → kx33 x1 M) ∧ (¬ (M.1 1 0) ≤ x3 → vp_in x3 6 ∧ (q_Nf_sum_L4 kx33 post n (x1 + (M.2 13 x3.toNatClampNeg)) (x3 + 1) M))
set_option maxHeartbeats 4000000 in
theorem s_Nf_sum_L4 {γ : Gm} {κ : Kp} {post : Int64 → Mem → Prop} {kx33 : Int64 → Mem → Prop} (C : Cx γ κ "NetForms" b_Nf_sum 4 0 (0, 0)) (R : Rt γ (some .long)) (hx33 : ∀ y0 M', kx33 y0 M' → G γ κ 4 (0, 0) (Gq γ κ (pJ post)) 33 [(1, .long y0)] [] M') : ∀ (n : Nat) (x1 : Int64) (x3 : Int32) (M : Mem), q_Nf_sum_L4 kx33 post n x1 x3 M → G γ κ 4 (0, 0) (Gq γ κ (pJ post)) 4 [(0, .ref (κ.1 + 0)), (1, .long x1), (3, .int x3)] [] M := by
  intro n
  induction n with
  | zero => intro x1 x3 M hq; exact hq.elim
  | succ n ih =>
    intro x1 x3 M hq
    unfold q_Nf_sum_L4 at hq
    refine G_iload_n C 2 d_Nf_sum_4 rfl rfl ?_
    refine G_aload_n C 0 d_Nf_sum_5 rfl rfl ?_
    refine Gg_Nf_shape C wd_163 d_Nf_sum_6 ?_
    refine Gg_Net_points C wd_27 d_Nf_sum_9 ?_
    refine G_icmp_ge C (tgt := 33) d_Nf_sum_12 (by decide) (fun c => ?_) (fun c => ?_)
    · replace hq := hq.1 c
      exact G_sub [1] (by rfl) (hx33 _ _ hq)
    · replace hq := hq.2 c
      refine G_lload_n C 1 d_Nf_sum_15 rfl rfl ?_
      refine G_aload_n C 0 d_Nf_sum_16 rfl rfl ?_
      refine Gg_Nf_motion C wd_166 d_Nf_sum_17 ?_
      refine Gg_Wav_levels C wd_94 d_Nf_sum_20 ?_
      refine G_iload_n C 2 d_Nf_sum_23 rfl rfl ?_
      refine G_laload C (k := 13) (by decide) (fun _ _ => rfl) hq.1 d_Nf_sum_24 ?_
      replace hq := hq.2
      refine G_ladd C d_Nf_sum_25 ?_
      refine G_lstore_n C (lv' := [(1, _), (0, _), (3, _)]) d_Nf_sum_26 rfl (by decide) rfl ?_
      refine G_iinc C (v := _ + 1) (lv' := [(3, _), (1, _), (0, _)]) 2 d_Nf_sum_27 rfl rfl (by decide) rfl ?_
      refine G_goto C (tgt := 4) d_Nf_sum_30 (by decide) ?_
      exact G_sub [2, 1, 0] (by rfl) (ih _ _ _ hq)
def q_Nf_sum (M : Mem) (post : Int64 → Mem → Prop) : Prop := ∃ n1, q_Nf_sum_L4 (fun x2 M3 => post x2 M3) post n1 (0 : Int64) (0 : Int32) M
set_option maxHeartbeats 4000000 in
theorem s_Nf_sum {l : Launch} {κ : Kp} {M : Mem} {post : Int64 → Mem → Prop} (hq : q_Nf_sum M post) : Ct l κ y_Nf_sum b_Nf_sum 4 (some .long) 0 [.ref (κ.1 + 0)] M (pJ post) := by
  refine Ct_of (by decide) (Nat.le_of_ble_eq_true rfl) (fun γ hγ C R => ?_)
  subst hγ
  unfold q_Nf_sum at hq
  show G γ κ 4 (0, 0) (Gq γ κ (pJ post)) 0 [(0, .ref (κ.1 + 0))] [] M
  refine G_lconst C (v := 0) d_Nf_sum_0 (by decide) ?_
  refine G_lstore_n C (lv' := [(1, _), (0, _)]) d_Nf_sum_1 rfl (by decide) rfl ?_
  refine G_iconst C (v := 0) d_Nf_sum_2 (by decide) ?_
  refine G_istore_n C (lv' := [(3, _), (1, _), (0, _)]) d_Nf_sum_3 rfl (by decide) rfl ?_
  obtain ⟨n1, hq⟩ := hq
  refine G_sub [2, 1, 0] (by rfl) (s_Nf_sum_L4 C R ?_ n1 _ _ _ hq)
  · intro x2 M3 hq
    refine G_lload_n C 0 d_Nf_sum_33 rfl rfl ?_
    exact G_lret C R d_Nf_sum_34 ⟨_, rfl, hq⟩
theorem d_Wal_countThere_0 : decode b_Wal_countThere 0 = .ok (.iconst 0, 1) := by decide +kernel
theorem d_Wal_countThere_1 : decode b_Wal_countThere 1 = .ok (.istore_n 2, 1) := by decide +kernel
theorem d_Wal_countThere_2 : decode b_Wal_countThere 2 = .ok (.iconst 0, 1) := by decide +kernel
theorem d_Wal_countThere_3 : decode b_Wal_countThere 3 = .ok (.istore_n 3, 1) := by decide +kernel
theorem d_Wal_countThere_4 : decode b_Wal_countThere 4 = .ok (.iload_n 3, 1) := by decide +kernel
theorem d_Wal_countThere_5 : decode b_Wal_countThere 5 = .ok (.aload_n 1, 1) := by decide +kernel
theorem d_Wal_countThere_6 : decode b_Wal_countThere 6 = .ok (.getfield 19, 3) := by decide +kernel
theorem d_Wal_countThere_9 : decode b_Wal_countThere 9 = .ok (.if_icmp .ge 21, 3) := by decide +kernel
theorem d_Wal_countThere_12 : decode b_Wal_countThere 12 = .ok (.aload_n 0, 1) := by decide +kernel
theorem d_Wal_countThere_13 : decode b_Wal_countThere 13 = .ok (.getfield 9, 3) := by decide +kernel
theorem d_Wal_countThere_16 : decode b_Wal_countThere 16 = .ok (.iload_n 3, 1) := by decide +kernel
theorem d_Wal_countThere_17 : decode b_Wal_countThere 17 = .ok (.baload, 1) := by decide +kernel
theorem d_Wal_countThere_18 : decode b_Wal_countThere 18 = .ok (.ifCond .eq 6, 3) := by decide +kernel
theorem d_Wal_countThere_21 : decode b_Wal_countThere 21 = .ok (.iinc 2 1, 3) := by decide +kernel
theorem d_Wal_countThere_24 : decode b_Wal_countThere 24 = .ok (.iinc 3 1, 3) := by decide +kernel
theorem d_Wal_countThere_27 : decode b_Wal_countThere 27 = .ok (.goto (-23), 3) := by decide +kernel
theorem d_Wal_countThere_30 : decode b_Wal_countThere 30 = .ok (.iload_n 2, 1) := by decide +kernel
theorem d_Wal_countThere_31 : decode b_Wal_countThere 31 = .ok (.ireturn, 1) := by decide +kernel
def q_Wal_countThere_L4 (kx30 : Int32 → Mem → Prop) (post : Int32 → Mem → Prop) : Nat → Int32 → Int32 → Mem → Prop
  | 0, _, _, _ => False
  | n + 1, x2, x3, M => ((M.1 1 0) ≤ x3 → kx30 x2 M) ∧ (¬ (M.1 1 0) ≤ x3 → vp_in x3 6 ∧ (((M.1 10 x3.toNatClampNeg) = 0 → q_Wal_countThere_L4 kx30 post n x2 (x3 + 1) M) ∧ (¬ (M.1 10 x3.toNatClampNeg) = 0 → q_Wal_countThere_L4 kx30 post n (x2 + 1) (x3 + 1) M)))
set_option maxHeartbeats 4000000 in
theorem s_Wal_countThere_L4 {γ : Gm} {κ : Kp} {post : Int32 → Mem → Prop} {kx30 : Int32 → Mem → Prop} (C : Cx γ κ "NetForms$Walls" b_Wal_countThere 4 0 (0, 0)) (R : Rt γ (some .int)) (hx30 : ∀ y0 M', kx30 y0 M' → G γ κ 4 (0, 0) (Gq γ κ (pI post)) 30 [(2, .int y0)] [] M') : ∀ (n : Nat) (x2 : Int32) (x3 : Int32) (M : Mem), q_Wal_countThere_L4 kx30 post n x2 x3 M → G γ κ 4 (0, 0) (Gq γ κ (pI post)) 4 [(0, .ref (κ.1 + 9)), (1, .ref (κ.1 + 1)), (2, .int x2), (3, .int x3)] [] M := by
  intro n
  induction n with
  | zero => intro x2 x3 M hq; exact hq.elim
  | succ n ih =>
    intro x2 x3 M hq
    unfold q_Wal_countThere_L4 at hq
    refine G_iload_n C 3 d_Wal_countThere_4 rfl rfl ?_
    refine G_aload_n C 1 d_Wal_countThere_5 rfl rfl ?_
    refine Gg_Net_points C wd_26 d_Wal_countThere_6 ?_
    refine G_icmp_ge C (tgt := 30) d_Wal_countThere_9 (by decide) (fun c => ?_) (fun c => ?_)
    · replace hq := hq.1 c
      exact G_sub [2] (by rfl) (hx30 _ _ hq)
    · replace hq := hq.2 c
      refine G_aload_n C 0 d_Wal_countThere_12 rfl rfl ?_
      refine Gg_Wal_there C wd_75 d_Wal_countThere_13 ?_
      refine G_iload_n C 3 d_Wal_countThere_16 rfl rfl ?_
      refine G_baload C (k := 10) (by decide) (fun _ _ => rfl) hq.1 d_Wal_countThere_17 ?_
      replace hq := hq.2
      refine G_if_eq C (tgt := 24) d_Wal_countThere_18 (by decide) (fun c => ?_) (fun c => ?_)
      · replace hq := hq.1 c
        refine G_iinc C (v := _ + 1) (lv' := [(3, _), (0, _), (1, _), (2, _)]) 3 d_Wal_countThere_24 rfl rfl (by decide) rfl ?_
        refine G_goto C (tgt := 4) d_Wal_countThere_27 (by decide) ?_
        exact G_sub [1, 2, 3, 0] (by rfl) (ih _ _ _ hq)
      · replace hq := hq.2 c
        refine G_iinc C (v := _ + 1) (lv' := [(2, _), (0, _), (1, _), (3, _)]) 2 d_Wal_countThere_21 rfl rfl (by decide) rfl ?_
        refine G_iinc C (v := _ + 1) (lv' := [(3, _), (2, _), (0, _), (1, _)]) 3 d_Wal_countThere_24 rfl rfl (by decide) rfl ?_
        refine G_goto C (tgt := 4) d_Wal_countThere_27 (by decide) ?_
        exact G_sub [2, 3, 1, 0] (by rfl) (ih _ _ _ hq)
def q_Wal_countThere (M : Mem) (post : Int32 → Mem → Prop) : Prop := ∃ n1, q_Wal_countThere_L4 (fun x2 M3 => post x2 M3) post n1 (0 : Int32) (0 : Int32) M
set_option maxHeartbeats 4000000 in
theorem s_Wal_countThere {l : Launch} {κ : Kp} {M : Mem} {post : Int32 → Mem → Prop} (hq : q_Wal_countThere M post) : Ct l κ y_Wal_countThere b_Wal_countThere 4 (some .int) 0 [.ref (κ.1 + 9), .ref (κ.1 + 1)] M (pI post) := by
  refine Ct_of (by decide) (Nat.le_of_ble_eq_true rfl) (fun γ hγ C R => ?_)
  subst hγ
  unfold q_Wal_countThere at hq
  show G γ κ 4 (0, 0) (Gq γ κ (pI post)) 0 [(0, .ref (κ.1 + 9)), (1, .ref (κ.1 + 1))] [] M
  refine G_iconst C (v := 0) d_Wal_countThere_0 (by decide) ?_
  refine G_istore_n C (lv' := [(2, _), (0, _), (1, _)]) d_Wal_countThere_1 rfl (by decide) rfl ?_
  refine G_iconst C (v := 0) d_Wal_countThere_2 (by decide) ?_
  refine G_istore_n C (lv' := [(3, _), (2, _), (0, _), (1, _)]) d_Wal_countThere_3 rfl (by decide) rfl ?_
  obtain ⟨n1, hq⟩ := hq
  refine G_sub [2, 3, 1, 0] (by rfl) (s_Wal_countThere_L4 C R ?_ n1 _ _ _ hq)
  · intro x2 M3 hq
    refine G_iload_n C 0 d_Wal_countThere_30 rfl rfl ?_
    exact G_iret C R d_Wal_countThere_31 ⟨_, rfl, hq⟩
theorem d_Nf_foldWalls_0 : decode b_Nf_foldWalls 0 = .ok (.lload_n 1, 1) := by decide +kernel
theorem d_Nf_foldWalls_1 : decode b_Nf_foldWalls 1 = .ok (.lstore_n 3, 1) := by decide +kernel
theorem d_Nf_foldWalls_2 : decode b_Nf_foldWalls 2 = .ok (.iconst 0, 1) := by decide +kernel
theorem d_Nf_foldWalls_3 : decode b_Nf_foldWalls 3 = .ok (.istore 5, 2) := by decide +kernel
theorem d_Nf_foldWalls_5 : decode b_Nf_foldWalls 5 = .ok (.iload 5, 2) := by decide +kernel
theorem d_Nf_foldWalls_7 : decode b_Nf_foldWalls 7 = .ok (.aload_n 0, 1) := by decide +kernel
theorem d_Nf_foldWalls_8 : decode b_Nf_foldWalls 8 = .ok (.getfield 10, 3) := by decide +kernel
theorem d_Nf_foldWalls_11 : decode b_Nf_foldWalls 11 = .ok (.getfield 147, 3) := by decide +kernel
theorem d_Nf_foldWalls_14 : decode b_Nf_foldWalls 14 = .ok (.if_icmp .ge 50, 3) := by decide +kernel
theorem d_Nf_foldWalls_17 : decode b_Nf_foldWalls 17 = .ok (.aload_n 0, 1) := by decide +kernel
theorem d_Nf_foldWalls_18 : decode b_Nf_foldWalls 18 = .ok (.getfield 25, 3) := by decide +kernel
theorem d_Nf_foldWalls_21 : decode b_Nf_foldWalls 21 = .ok (.getfield 179, 3) := by decide +kernel
theorem d_Nf_foldWalls_24 : decode b_Nf_foldWalls 24 = .ok (.iload 5, 2) := by decide +kernel
theorem d_Nf_foldWalls_26 : decode b_Nf_foldWalls 26 = .ok (.baload, 1) := by decide +kernel
theorem d_Nf_foldWalls_27 : decode b_Nf_foldWalls 27 = .ok (.ifCond .eq 31, 3) := by decide +kernel
theorem d_Nf_foldWalls_30 : decode b_Nf_foldWalls 30 = .ok (.ldc2_w 216, 3) := by decide +kernel
theorem d_Nf_foldWalls_33 : decode b_Nf_foldWalls 33 = .ok (.lload_n 3, 1) := by decide +kernel
theorem d_Nf_foldWalls_34 : decode b_Nf_foldWalls 34 = .ok (.lmul, 1) := by decide +kernel
theorem d_Nf_foldWalls_35 : decode b_Nf_foldWalls 35 = .ok (.iload 5, 2) := by decide +kernel
theorem d_Nf_foldWalls_37 : decode b_Nf_foldWalls 37 = .ok (.i2l, 1) := by decide +kernel
theorem d_Nf_foldWalls_38 : decode b_Nf_foldWalls 38 = .ok (.ladd, 1) := by decide +kernel
theorem d_Nf_foldWalls_39 : decode b_Nf_foldWalls 39 = .ok (.lstore_n 3, 1) := by decide +kernel
theorem d_Nf_foldWalls_40 : decode b_Nf_foldWalls 40 = .ok (.ldc2_w 216, 3) := by decide +kernel
theorem d_Nf_foldWalls_43 : decode b_Nf_foldWalls 43 = .ok (.lload_n 3, 1) := by decide +kernel
theorem d_Nf_foldWalls_44 : decode b_Nf_foldWalls 44 = .ok (.lmul, 1) := by decide +kernel
theorem d_Nf_foldWalls_45 : decode b_Nf_foldWalls 45 = .ok (.aload_n 0, 1) := by decide +kernel
theorem d_Nf_foldWalls_46 : decode b_Nf_foldWalls 46 = .ok (.getfield 25, 3) := by decide +kernel
theorem d_Nf_foldWalls_49 : decode b_Nf_foldWalls 49 = .ok (.getfield 183, 3) := by decide +kernel
theorem d_Nf_foldWalls_52 : decode b_Nf_foldWalls 52 = .ok (.iload 5, 2) := by decide +kernel
theorem d_Nf_foldWalls_54 : decode b_Nf_foldWalls 54 = .ok (.iaload, 1) := by decide +kernel
theorem d_Nf_foldWalls_55 : decode b_Nf_foldWalls 55 = .ok (.i2l, 1) := by decide +kernel
theorem d_Nf_foldWalls_56 : decode b_Nf_foldWalls 56 = .ok (.ladd, 1) := by decide +kernel
theorem d_Nf_foldWalls_57 : decode b_Nf_foldWalls 57 = .ok (.lstore_n 3, 1) := by decide +kernel
theorem d_Nf_foldWalls_58 : decode b_Nf_foldWalls 58 = .ok (.iinc 5 1, 3) := by decide +kernel
theorem d_Nf_foldWalls_61 : decode b_Nf_foldWalls 61 = .ok (.goto (-56), 3) := by decide +kernel
theorem d_Nf_foldWalls_64 : decode b_Nf_foldWalls 64 = .ok (.lload_n 3, 1) := by decide +kernel
theorem d_Nf_foldWalls_65 : decode b_Nf_foldWalls 65 = .ok (.lreturn, 1) := by decide +kernel
def q_Nf_foldWalls_L5 (kx64 : Int64 → Mem → Prop) (post : Int64 → Mem → Prop) : Nat → Int64 → Int32 → Mem → Prop
  | 0, _, _, _ => False
  | n + 1, x3, x5, M => ((M.1 1 0) ≤ x5 → kx64 x3 M) ∧ (¬ (M.1 1 0) ≤ x5 → vp_in x5 6 ∧ (((M.1 10 x5.toNatClampNeg) = 0 → q_Nf_foldWalls_L5 kx64 post n x3 (x5 + 1) M) ∧ (¬ (M.1 10 x5.toNatClampNeg) = 0 → vp_in x5 6 ∧ (∀ v1, v1 = (((31 : Int64) * (((31 : Int64) * x3) + x5.toInt64)) + ((M.1 11 x5.toNatClampNeg).toInt64)) → q_Nf_foldWalls_L5 kx64 post n v1 (x5 + 1) M))))
set_option maxHeartbeats 4000000 in
theorem s_Nf_foldWalls_L5 {γ : Gm} {κ : Kp} {post : Int64 → Mem → Prop} {kx64 : Int64 → Mem → Prop} (C : Cx γ κ "NetForms" b_Nf_foldWalls 6 0 (0, 0)) (R : Rt γ (some .long)) (hx64 : ∀ y0 M', kx64 y0 M' → G γ κ 6 (0, 0) (Gq γ κ (pJ post)) 64 [(3, .long y0)] [] M') : ∀ (n : Nat) (x3 : Int64) (x5 : Int32) (M : Mem), q_Nf_foldWalls_L5 kx64 post n x3 x5 M → G γ κ 6 (0, 0) (Gq γ κ (pJ post)) 5 [(0, .ref (κ.1 + 0)), (3, .long x3), (5, .int x5)] [] M := by
  intro n
  induction n with
  | zero => intro x3 x5 M hq; exact hq.elim
  | succ n ih =>
    intro x3 x5 M hq
    unfold q_Nf_foldWalls_L5 at hq
    refine G_iload C 2 d_Nf_foldWalls_5 rfl ?_
    refine G_aload_n C 0 d_Nf_foldWalls_7 rfl rfl ?_
    refine Gg_Nf_shape C wd_163 d_Nf_foldWalls_8 ?_
    refine Gg_Net_points C wd_27 d_Nf_foldWalls_11 ?_
    refine G_icmp_ge C (tgt := 64) d_Nf_foldWalls_14 (by decide) (fun c => ?_) (fun c => ?_)
    · replace hq := hq.1 c
      exact G_sub [1] (by rfl) (hx64 _ _ hq)
    · replace hq := hq.2 c
      refine G_aload_n C 0 d_Nf_foldWalls_17 rfl rfl ?_
      refine Gg_Nf_walls C wd_165 d_Nf_foldWalls_18 ?_
      refine Gg_Wal_there C wd_76 d_Nf_foldWalls_21 ?_
      refine G_iload C 2 d_Nf_foldWalls_24 rfl ?_
      refine G_baload C (k := 10) (by decide) (fun _ _ => rfl) hq.1 d_Nf_foldWalls_26 ?_
      replace hq := hq.2
      refine G_if_eq C (tgt := 58) d_Nf_foldWalls_27 (by decide) (fun c => ?_) (fun c => ?_)
      · replace hq := hq.1 c
        refine G_iinc C (v := _ + 1) (lv' := [(5, _), (0, _), (3, _)]) 2 d_Nf_foldWalls_58 rfl rfl (by decide) rfl ?_
        refine G_goto C (tgt := 5) d_Nf_foldWalls_61 (by decide) ?_
        exact G_sub [1, 2, 0] (by rfl) (ih _ _ _ hq)
      · replace hq := hq.2 c
        refine G_ldc2 C (v := 31) wd_501 d_Nf_foldWalls_30 ?_
        refine G_lload_n C 1 d_Nf_foldWalls_33 rfl rfl ?_
        refine G_lmul C d_Nf_foldWalls_34 ?_
        refine G_iload C 2 d_Nf_foldWalls_35 rfl ?_
        refine G_i2l C d_Nf_foldWalls_37 ?_
        refine G_ladd C d_Nf_foldWalls_38 ?_
        refine G_lstore_n C (lv' := [(3, _), (0, _), (5, _)]) d_Nf_foldWalls_39 rfl (by decide) rfl ?_
        refine G_ldc2 C (v := 31) wd_501 d_Nf_foldWalls_40 ?_
        refine G_lload_n C 0 d_Nf_foldWalls_43 rfl rfl ?_
        refine G_lmul C d_Nf_foldWalls_44 ?_
        refine G_aload_n C 1 d_Nf_foldWalls_45 rfl rfl ?_
        refine Gg_Nf_walls C wd_165 d_Nf_foldWalls_46 ?_
        refine Gg_Wal_numbers C wd_78 d_Nf_foldWalls_49 ?_
        refine G_iload C 2 d_Nf_foldWalls_52 rfl ?_
        refine G_iaload C (k := 11) (by decide) (fun _ _ => rfl) hq.1 d_Nf_foldWalls_54 ?_
        replace hq := hq.2
        refine G_i2l C d_Nf_foldWalls_55 ?_
        refine G_ladd C d_Nf_foldWalls_56 ?_
        replace hq := hq _ rfl
        refine G_lstore_n C (lv' := [(3, _), (0, _), (5, _)]) d_Nf_foldWalls_57 rfl (by decide) rfl ?_
        refine G_iinc C (v := _ + 1) (lv' := [(5, _), (3, _), (0, _)]) 2 d_Nf_foldWalls_58 rfl rfl (by decide) rfl ?_
        refine G_goto C (tgt := 5) d_Nf_foldWalls_61 (by decide) ?_
        exact G_sub [2, 1, 0] (by rfl) (ih _ _ _ hq)
def q_Nf_foldWalls (a1 : Int64) (M : Mem) (post : Int64 → Mem → Prop) : Prop := ∃ n2, q_Nf_foldWalls_L5 (fun x3 M4 => post x3 M4) post n2 a1 (0 : Int32) M
set_option maxHeartbeats 4000000 in
theorem s_Nf_foldWalls {l : Launch} {κ : Kp} {a1 : Int64} {M : Mem} {post : Int64 → Mem → Prop} (hq : q_Nf_foldWalls a1 M post) : Ct l κ y_Nf_foldWalls b_Nf_foldWalls 6 (some .long) 0 [.ref (κ.1 + 0), .long a1] M (pJ post) := by
  refine Ct_of (by decide) (Nat.le_of_ble_eq_true rfl) (fun γ hγ C R => ?_)
  subst hγ
  unfold q_Nf_foldWalls at hq
  show G γ κ 6 (0, 0) (Gq γ κ (pJ post)) 0 [(0, .ref (κ.1 + 0)), (1, .long a1)] [] M
  refine G_lload_n C 1 d_Nf_foldWalls_0 rfl rfl ?_
  refine G_lstore_n C (lv' := [(3, _), (0, _), (1, _)]) d_Nf_foldWalls_1 rfl (by decide) rfl ?_
  refine G_iconst C (v := 0) d_Nf_foldWalls_2 (by decide) ?_
  refine G_istore C (lv' := [(5, _), (3, _), (0, _), (1, _)]) d_Nf_foldWalls_3 (by decide) rfl ?_
  obtain ⟨n2, hq⟩ := hq
  refine G_sub [2, 1, 0] (by rfl) (s_Nf_foldWalls_L5 C R ?_ n2 _ _ _ hq)
  · intro x3 M4 hq
    refine G_lload_n C 0 d_Nf_foldWalls_64 rfl rfl ?_
    exact G_lret C R d_Nf_foldWalls_65 ⟨_, rfl, hq⟩
theorem d_Mo_in_0 : decode b_Mo_in 0 = .ok (.lload_n 0, 1) := by decide +kernel
theorem d_Mo_in_1 : decode b_Mo_in 1 = .ok (.lload_n 2, 1) := by decide +kernel
theorem d_Mo_in_2 : decode b_Mo_in 2 = .ok (.lcmp, 1) := by decide +kernel
theorem d_Mo_in_3 : decode b_Mo_in 3 = .ok (.ifCond .lt 14, 3) := by decide +kernel
theorem d_Mo_in_6 : decode b_Mo_in 6 = .ok (.lload_n 0, 1) := by decide +kernel
theorem d_Mo_in_7 : decode b_Mo_in 7 = .ok (.lload 4, 2) := by decide +kernel
theorem d_Mo_in_9 : decode b_Mo_in 9 = .ok (.lcmp, 1) := by decide +kernel
theorem d_Mo_in_10 : decode b_Mo_in 10 = .ok (.ifCond .gt 7, 3) := by decide +kernel
theorem d_Mo_in_13 : decode b_Mo_in 13 = .ok (.iconst 1, 1) := by decide +kernel
theorem d_Mo_in_14 : decode b_Mo_in 14 = .ok (.goto 4, 3) := by decide +kernel
theorem d_Mo_in_17 : decode b_Mo_in 17 = .ok (.iconst 0, 1) := by decide +kernel
theorem d_Mo_in_18 : decode b_Mo_in 18 = .ok (.ireturn, 1) := by decide +kernel
def q_Mo_in (a0 : Int64) (a2 : Int64) (a4 : Int64) (M : Mem) (post : Int32 → Mem → Prop) : Prop := (a0 < a2 → post (0 : Int32) M) ∧ (¬ a0 < a2 → (a4 < a0 → post (0 : Int32) M) ∧ (¬ a4 < a0 → post (1 : Int32) M))
set_option maxHeartbeats 4000000 in
theorem s_Mo_in {l : Launch} {κ : Kp} {a0 : Int64} {a2 : Int64} {a4 : Int64} {M : Mem} {post : Int32 → Mem → Prop} (hq : q_Mo_in a0 a2 a4 M post) : Ct l κ y_Mo_in b_Mo_in 6 (some .boolean) 0 [.long a0, .long a2, .long a4] M (pI post) := by
  refine Ct_of (by decide) (Nat.le_of_ble_eq_true rfl) (fun γ hγ C R => ?_)
  subst hγ
  unfold q_Mo_in at hq
  show G γ κ 6 (0, 0) (Gq γ κ (pI post)) 0 [(0, .long a0), (2, .long a2), (4, .long a4)] [] M
  refine G_lload_n C 0 d_Mo_in_0 rfl rfl ?_
  refine G_lload_n C 1 d_Mo_in_1 rfl rfl ?_
  refine G_lcmp_lt C (tgt := 17) (pc1 := 3) d_Mo_in_2 rfl d_Mo_in_3 (by decide) (fun c => ?_) (fun c => ?_)
  · replace hq := hq.1 c
    refine G_iconst C (v := 0) d_Mo_in_17 (by decide) ?_
    exact G_zret C R rfl d_Mo_in_18 ⟨_, rfl, hq⟩
  · replace hq := hq.2 c
    refine G_lload_n C 0 d_Mo_in_6 rfl rfl ?_
    refine G_lload C 2 d_Mo_in_7 rfl ?_
    refine G_lcmp_gt C (tgt := 17) (pc1 := 10) d_Mo_in_9 rfl d_Mo_in_10 (by decide) (fun c => ?_) (fun c => ?_)
    · replace hq := hq.1 c
      refine G_iconst C (v := 0) d_Mo_in_17 (by decide) ?_
      exact G_zret C R rfl d_Mo_in_18 ⟨_, rfl, hq⟩
    · replace hq := hq.2 c
      refine G_iconst C (v := 1) d_Mo_in_13 (by decide) ?_
      refine G_goto C (tgt := 18) d_Mo_in_14 (by decide) ?_
      exact G_zret C R rfl d_Mo_in_18 ⟨_, rfl, hq⟩
theorem d_Mo_clears_0 : decode b_Mo_clears 0 = .ok (.aload_n 0, 1) := by decide +kernel
theorem d_Mo_clears_1 : decode b_Mo_clears 1 = .ok (.getfield 29, 3) := by decide +kernel
theorem d_Mo_clears_4 : decode b_Mo_clears 4 = .ok (.iload_n 1, 1) := by decide +kernel
theorem d_Mo_clears_5 : decode b_Mo_clears 5 = .ok (.iload_n 2, 1) := by decide +kernel
theorem d_Mo_clears_6 : decode b_Mo_clears 6 = .ok (.iastore, 1) := by decide +kernel
theorem d_Mo_clears_7 : decode b_Mo_clears 7 = .ok (.iconst 0, 1) := by decide +kernel
theorem d_Mo_clears_8 : decode b_Mo_clears 8 = .ok (.istore_n 3, 1) := by decide +kernel
theorem d_Mo_clears_9 : decode b_Mo_clears 9 = .ok (.iload_n 3, 1) := by decide +kernel
theorem d_Mo_clears_10 : decode b_Mo_clears 10 = .ok (.bipush 12, 2) := by decide +kernel
theorem d_Mo_clears_12 : decode b_Mo_clears 12 = .ok (.if_icmp .ge 21, 3) := by decide +kernel
theorem d_Mo_clears_15 : decode b_Mo_clears 15 = .ok (.aload_n 0, 1) := by decide +kernel
theorem d_Mo_clears_16 : decode b_Mo_clears 16 = .ok (.getfield 32, 3) := by decide +kernel
theorem d_Mo_clears_19 : decode b_Mo_clears 19 = .ok (.bipush 12, 2) := by decide +kernel
theorem d_Mo_clears_21 : decode b_Mo_clears 21 = .ok (.iload_n 1, 1) := by decide +kernel
theorem d_Mo_clears_22 : decode b_Mo_clears 22 = .ok (.imul, 1) := by decide +kernel
theorem d_Mo_clears_23 : decode b_Mo_clears 23 = .ok (.iload_n 3, 1) := by decide +kernel
theorem d_Mo_clears_24 : decode b_Mo_clears 24 = .ok (.iadd, 1) := by decide +kernel
theorem d_Mo_clears_25 : decode b_Mo_clears 25 = .ok (.iconst 0, 1) := by decide +kernel
theorem d_Mo_clears_26 : decode b_Mo_clears 26 = .ok (.iastore, 1) := by decide +kernel
theorem d_Mo_clears_27 : decode b_Mo_clears 27 = .ok (.iinc 3 1, 3) := by decide +kernel
theorem d_Mo_clears_30 : decode b_Mo_clears 30 = .ok (.goto (-21), 3) := by decide +kernel
theorem d_Mo_clears_33 : decode b_Mo_clears 33 = .ok (.return_, 1) := by decide +kernel
def q_Mo_clears_L9 (kx33 : Mem → Prop) (post : Mem → Prop) : Nat → Int32 → Int32 → Mem → Prop
  | 0, _, _, _ => False
  | n + 1, x1, x3, M => ((12 : Int32) ≤ x3 → kx33 M) ∧ (¬ (12 : Int32) ≤ x3 → vp_in (((12 : Int32) * x1) + x3) 144 ∧ (∀ M2, M2 = wI M 63 (((12 : Int32) * x1) + x3).toNatClampNeg (0 : Int32) → q_Mo_clears_L9 kx33 post n x1 (x3 + 1) M2))
set_option maxHeartbeats 4000000 in
theorem s_Mo_clears_L9 {γ : Gm} {κ : Kp} {post : Mem → Prop} {kx33 : Mem → Prop} (C : Cx γ κ "NetFormsModel" b_Mo_clears 4 0 (0, 0)) (R : Rt γ (none)) (hx33 : ∀ M', kx33 M' → G γ κ 4 (0, 0) (Gq γ κ (pV post)) 33 [] [] M') : ∀ (n : Nat) (x1 : Int32) (x3 : Int32) (M : Mem), q_Mo_clears_L9 kx33 post n x1 x3 M → G γ κ 4 (0, 0) (Gq γ κ (pV post)) 9 [(0, .ref (κ.1 + 56)), (1, .int x1), (3, .int x3)] [] M := by
  intro n
  induction n with
  | zero => intro x1 x3 M hq; exact hq.elim
  | succ n ih =>
    intro x1 x3 M hq
    unfold q_Mo_clears_L9 at hq
    refine G_iload_n C 2 d_Mo_clears_9 rfl rfl ?_
    refine G_bipush C (v := 12) d_Mo_clears_10 (by decide) ?_
    refine G_icmp_ge C (tgt := 33) d_Mo_clears_12 (by decide) (fun c => ?_) (fun c => ?_)
    · replace hq := hq.1 c
      exact G_sub [] (by rfl) (hx33 _ hq)
    · replace hq := hq.2 c
      refine G_aload_n C 0 d_Mo_clears_15 rfl rfl ?_
      refine Gg_Mo_number C wd_530 d_Mo_clears_16 ?_
      refine G_bipush C (v := 12) d_Mo_clears_19 (by decide) ?_
      refine G_iload_n C 1 d_Mo_clears_21 rfl rfl ?_
      refine G_imul C d_Mo_clears_22 ?_
      refine G_iload_n C 2 d_Mo_clears_23 rfl rfl ?_
      refine G_iadd C d_Mo_clears_24 ?_
      refine G_iconst C (v := 0) d_Mo_clears_25 (by decide) ?_
      refine G_iastore C (k := 63) (by decide) (fun _ _ => rfl) hq.1 d_Mo_clears_26 ?_
      replace hq := hq.2 _ rfl
      refine G_iinc C (v := _ + 1) (lv' := [(3, _), (0, _), (1, _)]) 2 d_Mo_clears_27 rfl rfl (by decide) rfl ?_
      refine G_goto C (tgt := 9) d_Mo_clears_30 (by decide) ?_
      exact G_sub [1, 2, 0] (by rfl) (ih _ _ _ hq)
def q_Mo_clears (a1 : Int32) (a2 : Int32) (M : Mem) (post : Mem → Prop) : Prop := vp_in a1 12 ∧ (∀ M1, M1 = wI M 62 a1.toNatClampNeg a2 → ∃ n3, q_Mo_clears_L9 (fun M4 => post M4) post n3 a1 (0 : Int32) M1)
set_option maxHeartbeats 4000000 in
theorem s_Mo_clears {l : Launch} {κ : Kp} {a1 : Int32} {a2 : Int32} {M : Mem} {post : Mem → Prop} (hq : q_Mo_clears a1 a2 M post) : Ct l κ y_Mo_clears b_Mo_clears 4 (none) 0 [.ref (κ.1 + 56), .int a1, .int a2] M (pV post) := by
  refine Ct_of (by decide) (Nat.le_of_ble_eq_true rfl) (fun γ hγ C R => ?_)
  subst hγ
  unfold q_Mo_clears at hq
  show G γ κ 4 (0, 0) (Gq γ κ (pV post)) 0 [(0, .ref (κ.1 + 56)), (1, .int a1), (2, .int a2)] [] M
  refine G_aload_n C 0 d_Mo_clears_0 rfl rfl ?_
  refine Gg_Mo_degree C wd_529 d_Mo_clears_1 ?_
  refine G_iload_n C 1 d_Mo_clears_4 rfl rfl ?_
  refine G_iload_n C 2 d_Mo_clears_5 rfl rfl ?_
  refine G_iastore C (k := 62) (by decide) (fun _ _ => rfl) hq.1 d_Mo_clears_6 ?_
  replace hq := hq.2 _ rfl
  refine G_iconst C (v := 0) d_Mo_clears_7 (by decide) ?_
  refine G_istore_n C (lv' := [(3, _), (0, _), (1, _), (2, _)]) d_Mo_clears_8 rfl (by decide) rfl ?_
  obtain ⟨n3, hq⟩ := hq
  refine G_sub [1, 2, 0] (by rfl) (s_Mo_clears_L9 C R ?_ n3 _ _ _ hq)
  · intro M4 hq
    exact G_vret C R d_Mo_clears_33 ⟨rfl, hq⟩
theorem d_Mo_edgeOf_0 : decode b_Mo_edgeOf 0 = .ok (.iconst 0, 1) := by decide +kernel
theorem d_Mo_edgeOf_1 : decode b_Mo_edgeOf 1 = .ok (.istore_n 3, 1) := by decide +kernel
theorem d_Mo_edgeOf_2 : decode b_Mo_edgeOf 2 = .ok (.iload_n 3, 1) := by decide +kernel
theorem d_Mo_edgeOf_3 : decode b_Mo_edgeOf 3 = .ok (.aload_n 0, 1) := by decide +kernel
theorem d_Mo_edgeOf_4 : decode b_Mo_edgeOf 4 = .ok (.getfield 79, 3) := by decide +kernel
theorem d_Mo_edgeOf_7 : decode b_Mo_edgeOf 7 = .ok (.if_icmp .ge 31, 3) := by decide +kernel
theorem d_Mo_edgeOf_10 : decode b_Mo_edgeOf 10 = .ok (.aload_n 0, 1) := by decide +kernel
theorem d_Mo_edgeOf_11 : decode b_Mo_edgeOf 11 = .ok (.getfield 13, 3) := by decide +kernel
theorem d_Mo_edgeOf_14 : decode b_Mo_edgeOf 14 = .ok (.iload_n 3, 1) := by decide +kernel
theorem d_Mo_edgeOf_15 : decode b_Mo_edgeOf 15 = .ok (.iaload, 1) := by decide +kernel
theorem d_Mo_edgeOf_16 : decode b_Mo_edgeOf 16 = .ok (.iload_n 1, 1) := by decide +kernel
theorem d_Mo_edgeOf_17 : decode b_Mo_edgeOf 17 = .ok (.if_icmp .ne 15, 3) := by decide +kernel
theorem d_Mo_edgeOf_20 : decode b_Mo_edgeOf 20 = .ok (.aload_n 0, 1) := by decide +kernel
theorem d_Mo_edgeOf_21 : decode b_Mo_edgeOf 21 = .ok (.getfield 17, 3) := by decide +kernel
theorem d_Mo_edgeOf_24 : decode b_Mo_edgeOf 24 = .ok (.iload_n 3, 1) := by decide +kernel
theorem d_Mo_edgeOf_25 : decode b_Mo_edgeOf 25 = .ok (.iaload, 1) := by decide +kernel
theorem d_Mo_edgeOf_26 : decode b_Mo_edgeOf 26 = .ok (.iload_n 2, 1) := by decide +kernel
theorem d_Mo_edgeOf_27 : decode b_Mo_edgeOf 27 = .ok (.if_icmp .ne 5, 3) := by decide +kernel
theorem d_Mo_edgeOf_30 : decode b_Mo_edgeOf 30 = .ok (.iload_n 3, 1) := by decide +kernel
theorem d_Mo_edgeOf_31 : decode b_Mo_edgeOf 31 = .ok (.ireturn, 1) := by decide +kernel
theorem d_Mo_edgeOf_32 : decode b_Mo_edgeOf 32 = .ok (.iinc 3 1, 3) := by decide +kernel
theorem d_Mo_edgeOf_35 : decode b_Mo_edgeOf 35 = .ok (.goto (-33), 3) := by decide +kernel
theorem d_Mo_edgeOf_38 : decode b_Mo_edgeOf 38 = .ok (.iconst (-1), 1) := by decide +kernel
theorem d_Mo_edgeOf_39 : decode b_Mo_edgeOf 39 = .ok (.ireturn, 1) := by decide +kernel
def q_Mo_edgeOf_L2 (kx30 : Int32 → Mem → Prop) (kx38 : Mem → Prop) (post : Int32 → Mem → Prop) : Nat → Int32 → Int32 → Int32 → Mem → Prop
  | 0, _, _, _, _ => False
  | n + 1, x1, x2, x3, M => ((M.1 56 1) ≤ x3 → kx38 M) ∧ (¬ (M.1 56 1) ≤ x3 → vp_in x3 12 ∧ ((¬ (M.1 57 x3.toNatClampNeg) = x1 → q_Mo_edgeOf_L2 kx30 kx38 post n x1 x2 (x3 + 1) M) ∧ ((M.1 57 x3.toNatClampNeg) = x1 → vp_in x3 12 ∧ ((¬ (M.1 58 x3.toNatClampNeg) = x2 → q_Mo_edgeOf_L2 kx30 kx38 post n x1 x2 (x3 + 1) M) ∧ ((M.1 58 x3.toNatClampNeg) = x2 → kx30 x3 M)))))
set_option maxHeartbeats 4000000 in
theorem s_Mo_edgeOf_L2 {γ : Gm} {κ : Kp} {post : Int32 → Mem → Prop} {kx30 : Int32 → Mem → Prop} {kx38 : Mem → Prop} (C : Cx γ κ "NetFormsModel" b_Mo_edgeOf 4 0 (0, 0)) (R : Rt γ (some .int)) (hx30 : ∀ y0 M', kx30 y0 M' → G γ κ 4 (0, 0) (Gq γ κ (pI post)) 30 [(3, .int y0)] [] M') (hx38 : ∀ M', kx38 M' → G γ κ 4 (0, 0) (Gq γ κ (pI post)) 38 [] [] M') : ∀ (n : Nat) (x1 : Int32) (x2 : Int32) (x3 : Int32) (M : Mem), q_Mo_edgeOf_L2 kx30 kx38 post n x1 x2 x3 M → G γ κ 4 (0, 0) (Gq γ κ (pI post)) 2 [(0, .ref (κ.1 + 56)), (1, .int x1), (2, .int x2), (3, .int x3)] [] M := by
  intro n
  induction n with
  | zero => intro x1 x2 x3 M hq; exact hq.elim
  | succ n ih =>
    intro x1 x2 x3 M hq
    unfold q_Mo_edgeOf_L2 at hq
    refine G_iload_n C 3 d_Mo_edgeOf_2 rfl rfl ?_
    refine G_aload_n C 0 d_Mo_edgeOf_3 rfl rfl ?_
    refine Gg_Mo_edges C wd_522 d_Mo_edgeOf_4 ?_
    refine G_icmp_ge C (tgt := 38) d_Mo_edgeOf_7 (by decide) (fun c => ?_) (fun c => ?_)
    · replace hq := hq.1 c
      exact G_sub [] (by rfl) (hx38 _ hq)
    · replace hq := hq.2 c
      refine G_aload_n C 0 d_Mo_edgeOf_10 rfl rfl ?_
      refine Gg_Mo_begin C wd_524 d_Mo_edgeOf_11 ?_
      refine G_iload_n C 3 d_Mo_edgeOf_14 rfl rfl ?_
      refine G_iaload C (k := 57) (by decide) (fun _ _ => rfl) hq.1 d_Mo_edgeOf_15 ?_
      replace hq := hq.2
      refine G_iload_n C 1 d_Mo_edgeOf_16 rfl rfl ?_
      refine G_icmp_ne C (tgt := 32) d_Mo_edgeOf_17 (by decide) (fun c => ?_) (fun c => ?_)
      · replace hq := hq.1 c
        refine G_iinc C (v := _ + 1) (lv' := [(3, _), (0, _), (1, _), (2, _)]) 3 d_Mo_edgeOf_32 rfl rfl (by decide) rfl ?_
        refine G_goto C (tgt := 2) d_Mo_edgeOf_35 (by decide) ?_
        exact G_sub [1, 2, 3, 0] (by rfl) (ih _ _ _ _ hq)
      · replace hq := hq.2 c
        refine G_aload_n C 0 d_Mo_edgeOf_20 rfl rfl ?_
        refine Gg_Mo_end C wd_525 d_Mo_edgeOf_21 ?_
        refine G_iload_n C 3 d_Mo_edgeOf_24 rfl rfl ?_
        refine G_iaload C (k := 58) (by decide) (fun _ _ => rfl) hq.1 d_Mo_edgeOf_25 ?_
        replace hq := hq.2
        refine G_iload_n C 2 d_Mo_edgeOf_26 rfl rfl ?_
        refine G_icmp_ne C (tgt := 32) d_Mo_edgeOf_27 (by decide) (fun c => ?_) (fun c => ?_)
        · replace hq := hq.1 c
          refine G_iinc C (v := _ + 1) (lv' := [(3, _), (0, _), (1, _), (2, _)]) 3 d_Mo_edgeOf_32 rfl rfl (by decide) rfl ?_
          refine G_goto C (tgt := 2) d_Mo_edgeOf_35 (by decide) ?_
          exact G_sub [1, 2, 3, 0] (by rfl) (ih _ _ _ _ hq)
        · replace hq := hq.2 c
          exact G_sub [3] (by rfl) (hx30 _ _ hq)
def q_Mo_edgeOf (a1 : Int32) (a2 : Int32) (M : Mem) (post : Int32 → Mem → Prop) : Prop := ∃ n1, q_Mo_edgeOf_L2 (fun x2 M3 => post x2 M3) (fun M4 => post (-1 : Int32) M4) post n1 a1 a2 (0 : Int32) M
set_option maxHeartbeats 4000000 in
theorem s_Mo_edgeOf {l : Launch} {κ : Kp} {a1 : Int32} {a2 : Int32} {M : Mem} {post : Int32 → Mem → Prop} (hq : q_Mo_edgeOf a1 a2 M post) : Ct l κ y_Mo_edgeOf b_Mo_edgeOf 4 (some .int) 0 [.ref (κ.1 + 56), .int a1, .int a2] M (pI post) := by
  refine Ct_of (by decide) (Nat.le_of_ble_eq_true rfl) (fun γ hγ C R => ?_)
  subst hγ
  unfold q_Mo_edgeOf at hq
  show G γ κ 4 (0, 0) (Gq γ κ (pI post)) 0 [(0, .ref (κ.1 + 56)), (1, .int a1), (2, .int a2)] [] M
  refine G_iconst C (v := 0) d_Mo_edgeOf_0 (by decide) ?_
  refine G_istore_n C (lv' := [(3, _), (0, _), (1, _), (2, _)]) d_Mo_edgeOf_1 rfl (by decide) rfl ?_
  obtain ⟨n1, hq⟩ := hq
  refine G_sub [1, 2, 3, 0] (by rfl) (s_Mo_edgeOf_L2 C R ?_ ?_ n1 _ _ _ _ hq)
  · intro x2 M3 hq
    refine G_iload_n C 0 d_Mo_edgeOf_30 rfl rfl ?_
    exact G_iret C R d_Mo_edgeOf_31 ⟨_, rfl, hq⟩
  · intro M4 hq
    refine G_iconst C (v := -1) d_Mo_edgeOf_38 (by decide) ?_
    exact G_iret C R d_Mo_edgeOf_39 ⟨_, rfl, hq⟩
theorem d_Mo_size_0 : decode b_Mo_size 0 = .ok (.iload_n 1, 1) := by decide +kernel
theorem d_Mo_size_1 : decode b_Mo_size 1 = .ok (.ifCond .ne 10, 3) := by decide +kernel
theorem d_Mo_size_4 : decode b_Mo_size 4 = .ok (.aload_n 0, 1) := by decide +kernel
theorem d_Mo_size_5 : decode b_Mo_size 5 = .ok (.getfield 7, 3) := by decide +kernel
theorem d_Mo_size_8 : decode b_Mo_size 8 = .ok (.goto 19, 3) := by decide +kernel
theorem d_Mo_size_11 : decode b_Mo_size 11 = .ok (.iload_n 1, 1) := by decide +kernel
theorem d_Mo_size_12 : decode b_Mo_size 12 = .ok (.iconst 1, 1) := by decide +kernel
theorem d_Mo_size_13 : decode b_Mo_size 13 = .ok (.if_icmp .ne 10, 3) := by decide +kernel
theorem d_Mo_size_16 : decode b_Mo_size 16 = .ok (.aload_n 0, 1) := by decide +kernel
theorem d_Mo_size_17 : decode b_Mo_size 17 = .ok (.getfield 79, 3) := by decide +kernel
theorem d_Mo_size_20 : decode b_Mo_size 20 = .ok (.goto 7, 3) := by decide +kernel
theorem d_Mo_size_23 : decode b_Mo_size 23 = .ok (.aload_n 0, 1) := by decide +kernel
theorem d_Mo_size_24 : decode b_Mo_size 24 = .ok (.getfield 82, 3) := by decide +kernel
theorem d_Mo_size_27 : decode b_Mo_size 27 = .ok (.ireturn, 1) := by decide +kernel
def q_Mo_size (a1 : Int32) (M : Mem) (post : Int32 → Mem → Prop) : Prop := (¬ a1 = 0 → (¬ a1 = (1 : Int32) → post (M.1 56 2) M) ∧ (a1 = (1 : Int32) → post (M.1 56 1) M)) ∧ (a1 = 0 → post (M.1 56 0) M)
set_option maxHeartbeats 4000000 in
theorem s_Mo_size {l : Launch} {κ : Kp} {a1 : Int32} {M : Mem} {post : Int32 → Mem → Prop} (hq : q_Mo_size a1 M post) : Ct l κ y_Mo_size b_Mo_size 2 (some .int) 0 [.ref (κ.1 + 56), .int a1] M (pI post) := by
  refine Ct_of (by decide) (Nat.le_of_ble_eq_true rfl) (fun γ hγ C R => ?_)
  subst hγ
  unfold q_Mo_size at hq
  show G γ κ 2 (0, 0) (Gq γ κ (pI post)) 0 [(0, .ref (κ.1 + 56)), (1, .int a1)] [] M
  refine G_iload_n C 1 d_Mo_size_0 rfl rfl ?_
  refine G_if_ne C (tgt := 11) d_Mo_size_1 (by decide) (fun c => ?_) (fun c => ?_)
  · replace hq := hq.1 c
    refine G_iload_n C 1 d_Mo_size_11 rfl rfl ?_
    refine G_iconst C (v := 1) d_Mo_size_12 (by decide) ?_
    refine G_icmp_ne C (tgt := 23) d_Mo_size_13 (by decide) (fun c => ?_) (fun c => ?_)
    · replace hq := hq.1 c
      refine G_aload_n C 0 d_Mo_size_23 rfl rfl ?_
      refine Gg_Mo_faces C wd_523 d_Mo_size_24 ?_
      exact G_iret C R d_Mo_size_27 ⟨_, rfl, hq⟩
    · replace hq := hq.2 c
      refine G_aload_n C 0 d_Mo_size_16 rfl rfl ?_
      refine Gg_Mo_edges C wd_522 d_Mo_size_17 ?_
      refine G_goto C (tgt := 27) d_Mo_size_20 (by decide) ?_
      exact G_iret C R d_Mo_size_27 ⟨_, rfl, hq⟩
  · replace hq := hq.2 c
    refine G_aload_n C 0 d_Mo_size_4 rfl rfl ?_
    refine Gg_Mo_points C wd_521 d_Mo_size_5 ?_
    refine G_goto C (tgt := 27) d_Mo_size_8 (by decide) ?_
    exact G_iret C R d_Mo_size_27 ⟨_, rfl, hq⟩
theorem d_Mo_at_0 : decode b_Mo_at 0 = .ok (.aload_n 0, 1) := by decide +kernel
theorem d_Mo_at_1 : decode b_Mo_at 1 = .ok (.getfield 32, 3) := by decide +kernel
theorem d_Mo_at_4 : decode b_Mo_at 4 = .ok (.bipush 12, 2) := by decide +kernel
theorem d_Mo_at_6 : decode b_Mo_at 6 = .ok (.iload_n 1, 1) := by decide +kernel
theorem d_Mo_at_7 : decode b_Mo_at 7 = .ok (.imul, 1) := by decide +kernel
theorem d_Mo_at_8 : decode b_Mo_at 8 = .ok (.iload_n 2, 1) := by decide +kernel
theorem d_Mo_at_9 : decode b_Mo_at 9 = .ok (.iadd, 1) := by decide +kernel
theorem d_Mo_at_10 : decode b_Mo_at 10 = .ok (.iaload, 1) := by decide +kernel
theorem d_Mo_at_11 : decode b_Mo_at 11 = .ok (.i2l, 1) := by decide +kernel
theorem d_Mo_at_12 : decode b_Mo_at 12 = .ok (.lreturn, 1) := by decide +kernel
def q_Mo_at (a1 : Int32) (a2 : Int32) (M : Mem) (post : Int64 → Mem → Prop) : Prop := vp_in (((12 : Int32) * a1) + a2) 144 ∧ (post ((M.1 63 (((12 : Int32) * a1) + a2).toNatClampNeg).toInt64) M)
set_option maxHeartbeats 4000000 in
theorem s_Mo_at {l : Launch} {κ : Kp} {a1 : Int32} {a2 : Int32} {M : Mem} {post : Int64 → Mem → Prop} (hq : q_Mo_at a1 a2 M post) : Ct l κ y_Mo_at b_Mo_at 3 (some .long) 0 [.ref (κ.1 + 56), .int a1, .int a2] M (pJ post) := by
  refine Ct_of (by decide) (Nat.le_of_ble_eq_true rfl) (fun γ hγ C R => ?_)
  subst hγ
  unfold q_Mo_at at hq
  show G γ κ 3 (0, 0) (Gq γ κ (pJ post)) 0 [(0, .ref (κ.1 + 56)), (1, .int a1), (2, .int a2)] [] M
  refine G_aload_n C 0 d_Mo_at_0 rfl rfl ?_
  refine Gg_Mo_number C wd_530 d_Mo_at_1 ?_
  refine G_bipush C (v := 12) d_Mo_at_4 (by decide) ?_
  refine G_iload_n C 1 d_Mo_at_6 rfl rfl ?_
  refine G_imul C d_Mo_at_7 ?_
  refine G_iload_n C 2 d_Mo_at_8 rfl rfl ?_
  refine G_iadd C d_Mo_at_9 ?_
  refine G_iaload C (k := 63) (by decide) (fun _ _ => rfl) hq.1 d_Mo_at_10 ?_
  replace hq := hq.2
  refine G_i2l C d_Mo_at_11 ?_
  exact G_lret C R d_Mo_at_12 ⟨_, rfl, hq⟩
theorem d_Mo_joins_0 : decode b_Mo_joins 0 = .ok (.aload_n 0, 1) := by decide +kernel
theorem d_Mo_joins_1 : decode b_Mo_joins 1 = .ok (.getfield 61, 3) := by decide +kernel
theorem d_Mo_joins_4 : decode b_Mo_joins 4 = .ok (.iload_n 1, 1) := by decide +kernel
theorem d_Mo_joins_5 : decode b_Mo_joins 5 = .ok (.iaload, 1) := by decide +kernel
theorem d_Mo_joins_6 : decode b_Mo_joins 6 = .ok (.aload_n 0, 1) := by decide +kernel
theorem d_Mo_joins_7 : decode b_Mo_joins 7 = .ok (.getfield 61, 3) := by decide +kernel
theorem d_Mo_joins_10 : decode b_Mo_joins 10 = .ok (.iload_n 2, 1) := by decide +kernel
theorem d_Mo_joins_11 : decode b_Mo_joins 11 = .ok (.iaload, 1) := by decide +kernel
theorem d_Mo_joins_12 : decode b_Mo_joins 12 = .ok (.if_icmp .le 12, 3) := by decide +kernel
theorem d_Mo_joins_15 : decode b_Mo_joins 15 = .ok (.aload_n 0, 1) := by decide +kernel
theorem d_Mo_joins_16 : decode b_Mo_joins 16 = .ok (.getfield 61, 3) := by decide +kernel
theorem d_Mo_joins_19 : decode b_Mo_joins 19 = .ok (.iload_n 1, 1) := by decide +kernel
theorem d_Mo_joins_20 : decode b_Mo_joins 20 = .ok (.iaload, 1) := by decide +kernel
theorem d_Mo_joins_21 : decode b_Mo_joins 21 = .ok (.goto 9, 3) := by decide +kernel
theorem d_Mo_joins_24 : decode b_Mo_joins 24 = .ok (.aload_n 0, 1) := by decide +kernel
theorem d_Mo_joins_25 : decode b_Mo_joins 25 = .ok (.getfield 61, 3) := by decide +kernel
theorem d_Mo_joins_28 : decode b_Mo_joins 28 = .ok (.iload_n 2, 1) := by decide +kernel
theorem d_Mo_joins_29 : decode b_Mo_joins 29 = .ok (.iaload, 1) := by decide +kernel
theorem d_Mo_joins_30 : decode b_Mo_joins 30 = .ok (.istore_n 3, 1) := by decide +kernel
theorem d_Mo_joins_31 : decode b_Mo_joins 31 = .ok (.aload_n 0, 1) := by decide +kernel
theorem d_Mo_joins_32 : decode b_Mo_joins 32 = .ok (.getfield 61, 3) := by decide +kernel
theorem d_Mo_joins_35 : decode b_Mo_joins 35 = .ok (.iload_n 1, 1) := by decide +kernel
theorem d_Mo_joins_36 : decode b_Mo_joins 36 = .ok (.iaload, 1) := by decide +kernel
theorem d_Mo_joins_37 : decode b_Mo_joins 37 = .ok (.aload_n 0, 1) := by decide +kernel
theorem d_Mo_joins_38 : decode b_Mo_joins 38 = .ok (.getfield 61, 3) := by decide +kernel
theorem d_Mo_joins_41 : decode b_Mo_joins 41 = .ok (.iload_n 2, 1) := by decide +kernel
theorem d_Mo_joins_42 : decode b_Mo_joins 42 = .ok (.iaload, 1) := by decide +kernel
theorem d_Mo_joins_43 : decode b_Mo_joins 43 = .ok (.iadd, 1) := by decide +kernel
theorem d_Mo_joins_44 : decode b_Mo_joins 44 = .ok (.iload_n 3, 1) := by decide +kernel
theorem d_Mo_joins_45 : decode b_Mo_joins 45 = .ok (.isub, 1) := by decide +kernel
theorem d_Mo_joins_46 : decode b_Mo_joins 46 = .ok (.istore 4, 2) := by decide +kernel
theorem d_Mo_joins_48 : decode b_Mo_joins 48 = .ok (.iconst 0, 1) := by decide +kernel
theorem d_Mo_joins_49 : decode b_Mo_joins 49 = .ok (.istore 5, 2) := by decide +kernel
theorem d_Mo_joins_51 : decode b_Mo_joins 51 = .ok (.iload 5, 2) := by decide +kernel
theorem d_Mo_joins_53 : decode b_Mo_joins 53 = .ok (.aload_n 0, 1) := by decide +kernel
theorem d_Mo_joins_54 : decode b_Mo_joins 54 = .ok (.getfield 7, 3) := by decide +kernel
theorem d_Mo_joins_57 : decode b_Mo_joins 57 = .ok (.if_icmp .ge 39, 3) := by decide +kernel
theorem d_Mo_joins_60 : decode b_Mo_joins 60 = .ok (.aload_n 0, 1) := by decide +kernel
theorem d_Mo_joins_61 : decode b_Mo_joins 61 = .ok (.getfield 61, 3) := by decide +kernel
theorem d_Mo_joins_64 : decode b_Mo_joins 64 = .ok (.iload 5, 2) := by decide +kernel
theorem d_Mo_joins_66 : decode b_Mo_joins 66 = .ok (.aload_n 0, 1) := by decide +kernel
theorem d_Mo_joins_67 : decode b_Mo_joins 67 = .ok (.getfield 61, 3) := by decide +kernel
theorem d_Mo_joins_70 : decode b_Mo_joins 70 = .ok (.iload 5, 2) := by decide +kernel
theorem d_Mo_joins_72 : decode b_Mo_joins 72 = .ok (.iaload, 1) := by decide +kernel
theorem d_Mo_joins_73 : decode b_Mo_joins 73 = .ok (.iload_n 3, 1) := by decide +kernel
theorem d_Mo_joins_74 : decode b_Mo_joins 74 = .ok (.if_icmp .ne 8, 3) := by decide +kernel
theorem d_Mo_joins_77 : decode b_Mo_joins 77 = .ok (.iload 4, 2) := by decide +kernel
theorem d_Mo_joins_79 : decode b_Mo_joins 79 = .ok (.goto 10, 3) := by decide +kernel
theorem d_Mo_joins_82 : decode b_Mo_joins 82 = .ok (.aload_n 0, 1) := by decide +kernel
theorem d_Mo_joins_83 : decode b_Mo_joins 83 = .ok (.getfield 61, 3) := by decide +kernel
theorem d_Mo_joins_86 : decode b_Mo_joins 86 = .ok (.iload 5, 2) := by decide +kernel
theorem d_Mo_joins_88 : decode b_Mo_joins 88 = .ok (.iaload, 1) := by decide +kernel
theorem d_Mo_joins_89 : decode b_Mo_joins 89 = .ok (.iastore, 1) := by decide +kernel
theorem d_Mo_joins_90 : decode b_Mo_joins 90 = .ok (.iinc 5 1, 3) := by decide +kernel
theorem d_Mo_joins_93 : decode b_Mo_joins 93 = .ok (.goto (-42), 3) := by decide +kernel
theorem d_Mo_joins_96 : decode b_Mo_joins 96 = .ok (.return_, 1) := by decide +kernel
def q_Mo_joins_L51 (kx96 : Mem → Prop) (post : Mem → Prop) : Nat → Int32 → Int32 → Int32 → Mem → Prop
  | 0, _, _, _, _ => False
  | n + 1, x3, x4, x5, M => ((M.1 56 0) ≤ x5 → kx96 M) ∧ (¬ (M.1 56 0) ≤ x5 → vp_in x5 6 ∧ ((¬ (M.1 72 x5.toNatClampNeg) = x3 → vp_in x5 6 ∧ (vp_in x5 6 ∧ (∀ M2, M2 = wI M 72 x5.toNatClampNeg (M.1 72 x5.toNatClampNeg) → q_Mo_joins_L51 kx96 post n x3 x4 (x5 + 1) M2))) ∧ ((M.1 72 x5.toNatClampNeg) = x3 → vp_in x5 6 ∧ (∀ M3, M3 = wI M 72 x5.toNatClampNeg x4 → q_Mo_joins_L51 kx96 post n x3 x4 (x5 + 1) M3))))
set_option maxHeartbeats 4000000 in
theorem s_Mo_joins_L51 {γ : Gm} {κ : Kp} {post : Mem → Prop} {kx96 : Mem → Prop} (C : Cx γ κ "NetFormsModel" b_Mo_joins 6 0 (0, 0)) (R : Rt γ (none)) (hx96 : ∀ M', kx96 M' → G γ κ 6 (0, 0) (Gq γ κ (pV post)) 96 [] [] M') : ∀ (n : Nat) (x3 : Int32) (x4 : Int32) (x5 : Int32) (M : Mem), q_Mo_joins_L51 kx96 post n x3 x4 x5 M → G γ κ 6 (0, 0) (Gq γ κ (pV post)) 51 [(0, .ref (κ.1 + 56)), (3, .int x3), (4, .int x4), (5, .int x5)] [] M := by
  intro n
  induction n with
  | zero => intro x3 x4 x5 M hq; exact hq.elim
  | succ n ih =>
    intro x3 x4 x5 M hq
    unfold q_Mo_joins_L51 at hq
    refine G_iload C 3 d_Mo_joins_51 rfl ?_
    refine G_aload_n C 0 d_Mo_joins_53 rfl rfl ?_
    refine Gg_Mo_points C wd_521 d_Mo_joins_54 ?_
    refine G_icmp_ge C (tgt := 96) d_Mo_joins_57 (by decide) (fun c => ?_) (fun c => ?_)
    · replace hq := hq.1 c
      exact G_sub [] (by rfl) (hx96 _ hq)
    · replace hq := hq.2 c
      refine G_aload_n C 0 d_Mo_joins_60 rfl rfl ?_
      refine Gg_Mo_partOf C wd_541 d_Mo_joins_61 ?_
      refine G_iload C 3 d_Mo_joins_64 rfl ?_
      refine G_aload_n C 0 d_Mo_joins_66 rfl rfl ?_
      refine Gg_Mo_partOf C wd_541 d_Mo_joins_67 ?_
      refine G_iload C 3 d_Mo_joins_70 rfl ?_
      refine G_iaload C (k := 72) (by decide) (fun _ _ => rfl) hq.1 d_Mo_joins_72 ?_
      replace hq := hq.2
      refine G_iload_n C 1 d_Mo_joins_73 rfl rfl ?_
      refine G_icmp_ne C (tgt := 82) d_Mo_joins_74 (by decide) (fun c => ?_) (fun c => ?_)
      · replace hq := hq.1 c
        refine G_aload_n C 0 d_Mo_joins_82 rfl rfl ?_
        refine Gg_Mo_partOf C wd_541 d_Mo_joins_83 ?_
        refine G_iload C 3 d_Mo_joins_86 rfl ?_
        refine G_iaload C (k := 72) (by decide) (fun _ _ => rfl) hq.1 d_Mo_joins_88 ?_
        replace hq := hq.2
        refine G_iastore C (k := 72) (by decide) (fun _ _ => rfl) hq.1 d_Mo_joins_89 ?_
        replace hq := hq.2 _ rfl
        refine G_iinc C (v := _ + 1) (lv' := [(5, _), (0, _), (3, _), (4, _)]) 3 d_Mo_joins_90 rfl rfl (by decide) rfl ?_
        refine G_goto C (tgt := 51) d_Mo_joins_93 (by decide) ?_
        exact G_sub [1, 2, 3, 0] (by rfl) (ih _ _ _ _ hq)
      · replace hq := hq.2 c
        refine G_iload C 2 d_Mo_joins_77 rfl ?_
        refine G_goto C (tgt := 89) d_Mo_joins_79 (by decide) ?_
        refine G_iastore C (k := 72) (by decide) (fun _ _ => rfl) hq.1 d_Mo_joins_89 ?_
        replace hq := hq.2 _ rfl
        refine G_iinc C (v := _ + 1) (lv' := [(5, _), (0, _), (3, _), (4, _)]) 3 d_Mo_joins_90 rfl rfl (by decide) rfl ?_
        refine G_goto C (tgt := 51) d_Mo_joins_93 (by decide) ?_
        exact G_sub [1, 2, 3, 0] (by rfl) (ih _ _ _ _ hq)
def q_Mo_joins (a1 : Int32) (a2 : Int32) (M : Mem) (post : Mem → Prop) : Prop := vp_in a1 6 ∧ (vp_in a2 6 ∧ (((M.1 72 a1.toNatClampNeg) ≤ (M.1 72 a2.toNatClampNeg) → vp_in a2 6 ∧ (vp_in a1 6 ∧ (vp_in a2 6 ∧ (∀ v1, v1 = (((M.1 72 a1.toNatClampNeg) + (M.1 72 a2.toNatClampNeg)) - (M.1 72 a2.toNatClampNeg)) → ∃ n4, q_Mo_joins_L51 (fun M5 => post M5) post n4 (M.1 72 a2.toNatClampNeg) v1 (0 : Int32) M)))) ∧ (¬ (M.1 72 a1.toNatClampNeg) ≤ (M.1 72 a2.toNatClampNeg) → vp_in a1 6 ∧ (vp_in a1 6 ∧ (vp_in a2 6 ∧ (∀ v6, v6 = (((M.1 72 a1.toNatClampNeg) + (M.1 72 a2.toNatClampNeg)) - (M.1 72 a1.toNatClampNeg)) → ∃ n7, q_Mo_joins_L51 (fun M8 => post M8) post n7 (M.1 72 a1.toNatClampNeg) v6 (0 : Int32) M))))))
set_option maxHeartbeats 4000000 in
theorem s_Mo_joins {l : Launch} {κ : Kp} {a1 : Int32} {a2 : Int32} {M : Mem} {post : Mem → Prop} (hq : q_Mo_joins a1 a2 M post) : Ct l κ y_Mo_joins b_Mo_joins 6 (none) 0 [.ref (κ.1 + 56), .int a1, .int a2] M (pV post) := by
  refine Ct_of (by decide) (Nat.le_of_ble_eq_true rfl) (fun γ hγ C R => ?_)
  subst hγ
  unfold q_Mo_joins at hq
  show G γ κ 6 (0, 0) (Gq γ κ (pV post)) 0 [(0, .ref (κ.1 + 56)), (1, .int a1), (2, .int a2)] [] M
  refine G_aload_n C 0 d_Mo_joins_0 rfl rfl ?_
  refine Gg_Mo_partOf C wd_541 d_Mo_joins_1 ?_
  refine G_iload_n C 1 d_Mo_joins_4 rfl rfl ?_
  refine G_iaload C (k := 72) (by decide) (fun _ _ => rfl) hq.1 d_Mo_joins_5 ?_
  replace hq := hq.2
  refine G_aload_n C 0 d_Mo_joins_6 rfl rfl ?_
  refine Gg_Mo_partOf C wd_541 d_Mo_joins_7 ?_
  refine G_iload_n C 2 d_Mo_joins_10 rfl rfl ?_
  refine G_iaload C (k := 72) (by decide) (fun _ _ => rfl) hq.1 d_Mo_joins_11 ?_
  replace hq := hq.2
  refine G_icmp_le C (tgt := 24) d_Mo_joins_12 (by decide) (fun c => ?_) (fun c => ?_)
  · replace hq := hq.1 c
    refine G_aload_n C 0 d_Mo_joins_24 rfl rfl ?_
    refine Gg_Mo_partOf C wd_541 d_Mo_joins_25 ?_
    refine G_iload_n C 2 d_Mo_joins_28 rfl rfl ?_
    refine G_iaload C (k := 72) (by decide) (fun _ _ => rfl) hq.1 d_Mo_joins_29 ?_
    replace hq := hq.2
    refine G_istore_n C (lv' := [(3, _), (0, _), (1, _), (2, _)]) d_Mo_joins_30 rfl (by decide) rfl ?_
    refine G_aload_n C 1 d_Mo_joins_31 rfl rfl ?_
    refine Gg_Mo_partOf C wd_541 d_Mo_joins_32 ?_
    refine G_iload_n C 2 d_Mo_joins_35 rfl rfl ?_
    refine G_iaload C (k := 72) (by decide) (fun _ _ => rfl) hq.1 d_Mo_joins_36 ?_
    replace hq := hq.2
    refine G_aload_n C 1 d_Mo_joins_37 rfl rfl ?_
    refine Gg_Mo_partOf C wd_541 d_Mo_joins_38 ?_
    refine G_iload_n C 3 d_Mo_joins_41 rfl rfl ?_
    refine G_iaload C (k := 72) (by decide) (fun _ _ => rfl) hq.1 d_Mo_joins_42 ?_
    replace hq := hq.2
    refine G_iadd C d_Mo_joins_43 ?_
    refine G_iload_n C 0 d_Mo_joins_44 rfl rfl ?_
    refine G_isub C d_Mo_joins_45 ?_
    replace hq := hq _ rfl
    refine G_istore C (lv' := [(4, _), (3, _), (0, _), (1, _), (2, _)]) d_Mo_joins_46 (by decide) rfl ?_
    refine G_iconst C (v := 0) d_Mo_joins_48 (by decide) ?_
    refine G_istore C (lv' := [(5, _), (4, _), (3, _), (0, _), (1, _), (2, _)]) d_Mo_joins_49 (by decide) rfl ?_
    obtain ⟨n4, hq⟩ := hq
    refine G_sub [3, 2, 1, 0] (by rfl) (s_Mo_joins_L51 C R ?_ n4 _ _ _ _ hq)
    · intro M5 hq
      exact G_vret C R d_Mo_joins_96 ⟨rfl, hq⟩
  · replace hq := hq.2 c
    refine G_aload_n C 0 d_Mo_joins_15 rfl rfl ?_
    refine Gg_Mo_partOf C wd_541 d_Mo_joins_16 ?_
    refine G_iload_n C 1 d_Mo_joins_19 rfl rfl ?_
    refine G_iaload C (k := 72) (by decide) (fun _ _ => rfl) hq.1 d_Mo_joins_20 ?_
    replace hq := hq.2
    refine G_goto C (tgt := 30) d_Mo_joins_21 (by decide) ?_
    refine G_istore_n C (lv' := [(3, _), (0, _), (1, _), (2, _)]) d_Mo_joins_30 rfl (by decide) rfl ?_
    refine G_aload_n C 1 d_Mo_joins_31 rfl rfl ?_
    refine Gg_Mo_partOf C wd_541 d_Mo_joins_32 ?_
    refine G_iload_n C 2 d_Mo_joins_35 rfl rfl ?_
    refine G_iaload C (k := 72) (by decide) (fun _ _ => rfl) hq.1 d_Mo_joins_36 ?_
    replace hq := hq.2
    refine G_aload_n C 1 d_Mo_joins_37 rfl rfl ?_
    refine Gg_Mo_partOf C wd_541 d_Mo_joins_38 ?_
    refine G_iload_n C 3 d_Mo_joins_41 rfl rfl ?_
    refine G_iaload C (k := 72) (by decide) (fun _ _ => rfl) hq.1 d_Mo_joins_42 ?_
    replace hq := hq.2
    refine G_iadd C d_Mo_joins_43 ?_
    refine G_iload_n C 0 d_Mo_joins_44 rfl rfl ?_
    refine G_isub C d_Mo_joins_45 ?_
    replace hq := hq _ rfl
    refine G_istore C (lv' := [(4, _), (3, _), (0, _), (1, _), (2, _)]) d_Mo_joins_46 (by decide) rfl ?_
    refine G_iconst C (v := 0) d_Mo_joins_48 (by decide) ?_
    refine G_istore C (lv' := [(5, _), (4, _), (3, _), (0, _), (1, _), (2, _)]) d_Mo_joins_49 (by decide) rfl ?_
    obtain ⟨n7, hq⟩ := hq
    refine G_sub [3, 2, 1, 0] (by rfl) (s_Mo_joins_L51 C R ?_ n7 _ _ _ _ hq)
    · intro M8 hq
      exact G_vret C R d_Mo_joins_96 ⟨rfl, hq⟩
