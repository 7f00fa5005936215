theorem d_Bal_solve_0 : decode b_Bal_solve 0 = .ok (.aload_n 0, 1) := by decide +kernel
theorem d_Bal_solve_1 : decode b_Bal_solve 1 = .ok (.iconst 0, 1) := by decide +kernel
theorem d_Bal_solve_2 : decode b_Bal_solve 2 = .ok (.putfield 34, 3) := by decide +kernel
theorem d_Bal_solve_5 : decode b_Bal_solve 5 = .ok (.aload_n 0, 1) := by decide +kernel
theorem d_Bal_solve_6 : decode b_Bal_solve 6 = .ok (.lconst 1, 1) := by decide +kernel
theorem d_Bal_solve_7 : decode b_Bal_solve 7 = .ok (.putfield 37, 3) := by decide +kernel
theorem d_Bal_solve_10 : decode b_Bal_solve 10 = .ok (.iconst 0, 1) := by decide +kernel
theorem d_Bal_solve_11 : decode b_Bal_solve 11 = .ok (.istore_n 1, 1) := by decide +kernel
theorem d_Bal_solve_12 : decode b_Bal_solve 12 = .ok (.iload_n 1, 1) := by decide +kernel
theorem d_Bal_solve_13 : decode b_Bal_solve 13 = .ok (.aload_n 0, 1) := by decide +kernel
theorem d_Bal_solve_14 : decode b_Bal_solve 14 = .ok (.getfield 24, 3) := by decide +kernel
theorem d_Bal_solve_17 : decode b_Bal_solve 17 = .ok (.if_icmp .ge 65, 3) := by decide +kernel
theorem d_Bal_solve_20 : decode b_Bal_solve 20 = .ok (.aload_n 0, 1) := by decide +kernel
theorem d_Bal_solve_21 : decode b_Bal_solve 21 = .ok (.getfield 11, 3) := by decide +kernel
theorem d_Bal_solve_24 : decode b_Bal_solve 24 = .ok (.iload_n 1, 1) := by decide +kernel
theorem d_Bal_solve_25 : decode b_Bal_solve 25 = .ok (.aaload, 1) := by decide +kernel
theorem d_Bal_solve_26 : decode b_Bal_solve 26 = .ok (.iload_n 1, 1) := by decide +kernel
theorem d_Bal_solve_27 : decode b_Bal_solve 27 = .ok (.laload, 1) := by decide +kernel
theorem d_Bal_solve_28 : decode b_Bal_solve 28 = .ok (.lstore_n 2, 1) := by decide +kernel
theorem d_Bal_solve_29 : decode b_Bal_solve 29 = .ok (.lload_n 2, 1) := by decide +kernel
theorem d_Bal_solve_30 : decode b_Bal_solve 30 = .ok (.lconst 0, 1) := by decide +kernel
theorem d_Bal_solve_31 : decode b_Bal_solve 31 = .ok (.lcmp, 1) := by decide +kernel
theorem d_Bal_solve_32 : decode b_Bal_solve 32 = .ok (.ifCond .eq 44, 3) := by decide +kernel
theorem d_Bal_solve_35 : decode b_Bal_solve 35 = .ok (.iconst 0, 1) := by decide +kernel
theorem d_Bal_solve_36 : decode b_Bal_solve 36 = .ok (.istore 4, 2) := by decide +kernel
theorem d_Bal_solve_38 : decode b_Bal_solve 38 = .ok (.iload 4, 2) := by decide +kernel
theorem d_Bal_solve_40 : decode b_Bal_solve 40 = .ok (.aload_n 0, 1) := by decide +kernel
theorem d_Bal_solve_41 : decode b_Bal_solve 41 = .ok (.getfield 24, 3) := by decide +kernel
theorem d_Bal_solve_44 : decode b_Bal_solve 44 = .ok (.if_icmp .ge 17, 3) := by decide +kernel
theorem d_Bal_solve_47 : decode b_Bal_solve 47 = .ok (.aload_n 0, 1) := by decide +kernel
theorem d_Bal_solve_48 : decode b_Bal_solve 48 = .ok (.iload 4, 2) := by decide +kernel
theorem d_Bal_solve_50 : decode b_Bal_solve 50 = .ok (.iload_n 1, 1) := by decide +kernel
theorem d_Bal_solve_51 : decode b_Bal_solve 51 = .ok (.lload_n 2, 1) := by decide +kernel
theorem d_Bal_solve_52 : decode b_Bal_solve 52 = .ok (.invokevirtual 41, 3) := by decide +kernel
theorem d_Bal_solve_55 : decode b_Bal_solve 55 = .ok (.iinc 4 1, 3) := by decide +kernel
theorem d_Bal_solve_58 : decode b_Bal_solve 58 = .ok (.goto (-20), 3) := by decide +kernel
theorem d_Bal_solve_61 : decode b_Bal_solve 61 = .ok (.aload_n 0, 1) := by decide +kernel
theorem d_Bal_solve_62 : decode b_Bal_solve 62 = .ok (.lload_n 2, 1) := by decide +kernel
theorem d_Bal_solve_63 : decode b_Bal_solve 63 = .ok (.putfield 37, 3) := by decide +kernel
theorem d_Bal_solve_66 : decode b_Bal_solve 66 = .ok (.aload_n 0, 1) := by decide +kernel
theorem d_Bal_solve_67 : decode b_Bal_solve 67 = .ok (.dup, 1) := by decide +kernel
theorem d_Bal_solve_68 : decode b_Bal_solve 68 = .ok (.getfield 34, 3) := by decide +kernel
theorem d_Bal_solve_71 : decode b_Bal_solve 71 = .ok (.iconst 1, 1) := by decide +kernel
theorem d_Bal_solve_72 : decode b_Bal_solve 72 = .ok (.iadd, 1) := by decide +kernel
theorem d_Bal_solve_73 : decode b_Bal_solve 73 = .ok (.putfield 34, 3) := by decide +kernel
theorem d_Bal_solve_76 : decode b_Bal_solve 76 = .ok (.iinc 1 1, 3) := by decide +kernel
theorem d_Bal_solve_79 : decode b_Bal_solve 79 = .ok (.goto (-67), 3) := by decide +kernel
theorem d_Bal_solve_82 : decode b_Bal_solve 82 = .ok (.return_, 1) := by decide +kernel
def q_Bal_solve_L38 (kx61 : Int32 → Int64 → Mem → Prop) (post : Mem → Prop) : Nat → Int32 → Int64 → Int32 → Mem → Prop
  | 0, _, _, _, _ => False
  | n + 1, x1, x2, x4, M => ((M.1 15 0) ≤ x4 → kx61 x1 x2 M) ∧ (¬ (M.1 15 0) ≤ x4 → q_Bal_clear x4 x1 x2 M (fun M4 => q_Bal_solve_L38 kx61 post n x1 x2 (x4 + 1) M4))
set_option maxHeartbeats 4000000 in
theorem s_Bal_solve_L38 {γ : Gm} {κ : Kp} {post : Mem → Prop} {kx61 : Int32 → Int64 → Mem → Prop} (C : Cx γ κ "NetForms$Balance" b_Bal_solve 5 2 (0, 0)) (R : Rt γ (none)) (hx61 : ∀ y1 y2 M', kx61 y1 y2 M' → G γ κ 5 (0, 0) (Gq γ κ (pV post)) 61 [(0, .ref (κ.1 + 15)), (1, .int y1), (2, .long y2)] [] M') : ∀ (n : Nat) (x1 : Int32) (x2 : Int64) (x4 : Int32) (M : Mem), q_Bal_solve_L38 kx61 post n x1 x2 x4 M → G γ κ 5 (0, 0) (Gq γ κ (pV post)) 38 [(0, .ref (κ.1 + 15)), (1, .int x1), (2, .long x2), (4, .int x4)] [] M := by
  intro n
  induction n with
  | zero => intro x1 x2 x4 M hq; exact hq.elim
  | succ n ih =>
    intro x1 x2 x4 M hq
    unfold q_Bal_solve_L38 at hq
    refine G_iload C 3 d_Bal_solve_38 rfl ?_
    refine G_aload_n C 0 d_Bal_solve_40 rfl rfl ?_
    refine Gg_Bal_size C wd_113 d_Bal_solve_41 ?_
    refine G_icmp_ge C (tgt := 61) d_Bal_solve_44 (by decide) (fun c => ?_) (fun c => ?_)
    · replace hq := hq.1 c
      exact G_sub [0, 1, 2] (by rfl) (hx61 _ _ _ hq)
    · replace hq := hq.2 c
      refine G_aload_n C 0 d_Bal_solve_47 rfl rfl ?_
      refine G_iload C 3 d_Bal_solve_48 rfl ?_
      refine G_iload_n C 1 d_Bal_solve_50 rfl rfl ?_
      refine G_lload_n C 2 d_Bal_solve_51 rfl rfl ?_
      refine G_callV C (s_Bal_clear hq) v_Bal_clear i_Bal_clear z_Bal_clear wd_367 (by decide) rfl (k := 15) (ci := 0) (by decide) rfl rfl rfl (rest := []) (by rfl) (Nat.le_of_ble_eq_true rfl) d_Bal_solve_52 (kv_ (fun M4 hq => ?_))
      refine G_iinc C (v := _ + 1) (lv' := [(4, _), (0, _), (1, _), (2, _)]) 3 d_Bal_solve_55 rfl rfl (by decide) rfl ?_
      refine G_goto C (tgt := 38) d_Bal_solve_58 (by decide) ?_
      exact G_sub [1, 2, 3, 0] (by rfl) (ih _ _ _ _ hq)
def q_Bal_solve_L12 (kx82 : Mem → Prop) (post : Mem → Prop) : Nat → Int32 → Mem → Prop
  | 0, _, _ => False
  | n + 1, x1, M => ((M.1 15 0) ≤ x1 → kx82 M) ∧ (¬ (M.1 15 0) ≤ x1 → vp_in x1 10 ∧ (vp_in x1 10 ∧ (((M.2 (17 + x1.toNatClampNeg) x1.toNatClampNeg) = (0 : Int64) → q_Bal_solve_L12 kx82 post n (x1 + 1) M) ∧ (¬ (M.2 (17 + x1.toNatClampNeg) x1.toNatClampNeg) = (0 : Int64) → ∃ n5, q_Bal_solve_L38 (fun x6 x7 M8 => ∀ M9, M9 = wJ M8 15 4 x7 → ∀ M10, M10 = wI M9 15 3 ((M9.1 15 3) + (1 : Int32)) → q_Bal_solve_L12 kx82 post n (x6 + 1) M10) post n5 x1 (M.2 (17 + x1.toNatClampNeg) x1.toNatClampNeg) (0 : Int32) M))))
set_option maxHeartbeats 4000000 in
theorem s_Bal_solve_L12 {γ : Gm} {κ : Kp} {post : Mem → Prop} {kx82 : Mem → Prop} (C : Cx γ κ "NetForms$Balance" b_Bal_solve 5 2 (0, 0)) (R : Rt γ (none)) (hx82 : ∀ M', kx82 M' → G γ κ 5 (0, 0) (Gq γ κ (pV post)) 82 [] [] M') : ∀ (n : Nat) (x1 : Int32) (M : Mem), q_Bal_solve_L12 kx82 post n x1 M → G γ κ 5 (0, 0) (Gq γ κ (pV post)) 12 [(0, .ref (κ.1 + 15)), (1, .int x1)] [] M := by
  intro n
  induction n with
  | zero => intro x1 M hq; exact hq.elim
  | succ n ih =>
    intro x1 M hq
    unfold q_Bal_solve_L12 at hq
    refine G_iload_n C 1 d_Bal_solve_12 rfl rfl ?_
    refine G_aload_n C 0 d_Bal_solve_13 rfl rfl ?_
    refine Gg_Bal_size C wd_113 d_Bal_solve_14 ?_
    refine G_icmp_ge C (tgt := 82) d_Bal_solve_17 (by decide) (fun c => ?_) (fun c => ?_)
    · replace hq := hq.1 c
      exact G_sub [] (by rfl) (hx82 _ hq)
    · replace hq := hq.2 c
      refine G_aload_n C 0 d_Bal_solve_20 rfl rfl ?_
      refine Gg_Bal_table C wd_114 d_Bal_solve_21 ?_
      refine G_iload_n C 1 d_Bal_solve_24 rfl rfl ?_
      have hr3 := hq.1
      replace hq := hq.2
      refine G_aaT C hr3 d_Bal_solve_25 ?_
      refine G_iload_n C 1 d_Bal_solve_26 rfl rfl ?_
      refine G_laload C (by have := vp_lt hr3; omega) (sh_tabA κ (vp_lt hr3)) hq.1 d_Bal_solve_27 ?_
      replace hq := hq.2
      refine G_lstore_n C (lv' := [(2, _), (0, _), (1, _)]) d_Bal_solve_28 rfl (by decide) rfl ?_
      refine G_lload_n C 0 d_Bal_solve_29 rfl rfl ?_
      refine G_lconst C (v := 0) d_Bal_solve_30 (by decide) ?_
      refine G_lcmp_eq C (tgt := 76) (pc1 := 32) d_Bal_solve_31 rfl d_Bal_solve_32 (by decide) (fun c => ?_) (fun c => ?_)
      · replace hq := hq.1 c
        refine G_iinc C (v := _ + 1) (lv' := [(1, _), (2, _), (0, _)]) 2 d_Bal_solve_76 rfl rfl (by decide) rfl ?_
        refine G_goto C (tgt := 12) d_Bal_solve_79 (by decide) ?_
        exact G_sub [2, 0] (by rfl) (ih _ _ hq)
      · replace hq := hq.2 c
        refine G_iconst C (v := 0) d_Bal_solve_35 (by decide) ?_
        refine G_istore C (lv' := [(4, _), (2, _), (0, _), (1, _)]) d_Bal_solve_36 (by decide) rfl ?_
        obtain ⟨n5, hq⟩ := hq
        refine G_sub [2, 3, 1, 0] (by rfl) (s_Bal_solve_L38 C R ?_ n5 _ _ _ _ hq)
        · intro x6 x7 M8 hq
          refine G_aload_n C 0 d_Bal_solve_61 rfl rfl ?_
          refine G_lload_n C 2 d_Bal_solve_62 rfl rfl ?_
          refine Gp_Bal_below C wd_118 d_Bal_solve_63 ?_
          replace hq := hq _ rfl
          refine G_aload_n C 0 d_Bal_solve_66 rfl rfl ?_
          refine G_dup C d_Bal_solve_67 rfl ?_
          refine Gg_Bal_rank C wd_116 d_Bal_solve_68 ?_
          refine G_iconst C (v := 1) d_Bal_solve_71 (by decide) ?_
          refine G_iadd C d_Bal_solve_72 ?_
          refine Gp_Bal_rank C wd_116 d_Bal_solve_73 ?_
          replace hq := hq _ rfl
          refine G_iinc C (v := _ + 1) (lv' := [(1, _), (0, _), (2, _)]) 1 d_Bal_solve_76 rfl rfl (by decide) rfl ?_
          refine G_goto C (tgt := 12) d_Bal_solve_79 (by decide) ?_
          exact G_sub [1, 0] (by rfl) (ih _ _ hq)
def q_Bal_solve (M : Mem) (post : Mem → Prop) : Prop := ∀ M1, M1 = wI M 15 3 (0 : Int32) → ∀ M2, M2 = wJ M1 15 4 (1 : Int64) → ∃ n11, q_Bal_solve_L12 (fun M12 => post M12) post n11 (0 : Int32) M2
set_option maxHeartbeats 4000000 in
theorem s_Bal_solve {l : Launch} {κ : Kp} {M : Mem} {post : Mem → Prop} (hq : q_Bal_solve M post) : Ct l κ y_Bal_solve b_Bal_solve 5 (none) 2 [.ref (κ.1 + 15)] M (pV post) := by
  refine Ct_of (by decide) (Nat.le_of_ble_eq_true rfl) (fun γ hγ C R => ?_)
  subst hγ
  unfold q_Bal_solve at hq
  show G γ κ 5 (0, 0) (Gq γ κ (pV post)) 0 [(0, .ref (κ.1 + 15))] [] M
  refine G_aload_n C 0 d_Bal_solve_0 rfl rfl ?_
  refine G_iconst C (v := 0) d_Bal_solve_1 (by decide) ?_
  refine Gp_Bal_rank C wd_116 d_Bal_solve_2 ?_
  replace hq := hq _ rfl
  refine G_aload_n C 0 d_Bal_solve_5 rfl rfl ?_
  refine G_lconst C (v := 1) d_Bal_solve_6 (by decide) ?_
  refine Gp_Bal_below C wd_118 d_Bal_solve_7 ?_
  replace hq := hq _ rfl
  refine G_iconst C (v := 0) d_Bal_solve_10 (by decide) ?_
  refine G_istore_n C (lv' := [(1, _), (0, _)]) d_Bal_solve_11 rfl (by decide) rfl ?_
  obtain ⟨n11, hq⟩ := hq
  refine G_sub [1, 0] (by rfl) (s_Bal_solve_L12 C R ?_ n11 _ _ hq)
  · intro M12 hq
    exact G_vret C R d_Bal_solve_82 ⟨rfl, hq⟩
theorem d_Cli_along_0 : decode b_Cli_along 0 = .ok (.iconst 0, 1) := by decide +kernel
theorem d_Cli_along_1 : decode b_Cli_along 1 = .ok (.istore_n 3, 1) := by decide +kernel
theorem d_Cli_along_2 : decode b_Cli_along 2 = .ok (.iload_n 3, 1) := by decide +kernel
theorem d_Cli_along_3 : decode b_Cli_along 3 = .ok (.bipush 6, 2) := by decide +kernel
theorem d_Cli_along_5 : decode b_Cli_along 5 = .ok (.if_icmp .ge 23, 3) := by decide +kernel
theorem d_Cli_along_8 : decode b_Cli_along 8 = .ok (.aload_n 0, 1) := by decide +kernel
theorem d_Cli_along_9 : decode b_Cli_along 9 = .ok (.getfield 9, 3) := by decide +kernel
theorem d_Cli_along_12 : decode b_Cli_along 12 = .ok (.iload_n 3, 1) := by decide +kernel
theorem d_Cli_along_13 : decode b_Cli_along 13 = .ok (.lconst 0, 1) := by decide +kernel
theorem d_Cli_along_14 : decode b_Cli_along 14 = .ok (.lastore, 1) := by decide +kernel
theorem d_Cli_along_15 : decode b_Cli_along 15 = .ok (.aload_n 0, 1) := by decide +kernel
theorem d_Cli_along_16 : decode b_Cli_along 16 = .ok (.getfield 15, 3) := by decide +kernel
theorem d_Cli_along_19 : decode b_Cli_along 19 = .ok (.iload_n 3, 1) := by decide +kernel
theorem d_Cli_along_20 : decode b_Cli_along 20 = .ok (.iload_n 3, 1) := by decide +kernel
theorem d_Cli_along_21 : decode b_Cli_along 21 = .ok (.iastore, 1) := by decide +kernel
theorem d_Cli_along_22 : decode b_Cli_along 22 = .ok (.iinc 3 1, 3) := by decide +kernel
theorem d_Cli_along_25 : decode b_Cli_along 25 = .ok (.goto (-23), 3) := by decide +kernel
theorem d_Cli_along_28 : decode b_Cli_along 28 = .ok (.iconst 0, 1) := by decide +kernel
theorem d_Cli_along_29 : decode b_Cli_along 29 = .ok (.istore_n 3, 1) := by decide +kernel
theorem d_Cli_along_30 : decode b_Cli_along 30 = .ok (.iload_n 3, 1) := by decide +kernel
theorem d_Cli_along_31 : decode b_Cli_along 31 = .ok (.aload_n 1, 1) := by decide +kernel
theorem d_Cli_along_32 : decode b_Cli_along 32 = .ok (.getfield 19, 3) := by decide +kernel
theorem d_Cli_along_35 : decode b_Cli_along 35 = .ok (.if_icmp .ge 99, 3) := by decide +kernel
theorem d_Cli_along_38 : decode b_Cli_along 38 = .ok (.aload_n 1, 1) := by decide +kernel
theorem d_Cli_along_39 : decode b_Cli_along 39 = .ok (.getfield 25, 3) := by decide +kernel
theorem d_Cli_along_42 : decode b_Cli_along 42 = .ok (.iload_n 3, 1) := by decide +kernel
theorem d_Cli_along_43 : decode b_Cli_along 43 = .ok (.iaload, 1) := by decide +kernel
theorem d_Cli_along_44 : decode b_Cli_along 44 = .ok (.istore 4, 2) := by decide +kernel
theorem d_Cli_along_46 : decode b_Cli_along 46 = .ok (.aload_n 1, 1) := by decide +kernel
theorem d_Cli_along_47 : decode b_Cli_along 47 = .ok (.getfield 28, 3) := by decide +kernel
theorem d_Cli_along_50 : decode b_Cli_along 50 = .ok (.iload_n 3, 1) := by decide +kernel
theorem d_Cli_along_51 : decode b_Cli_along 51 = .ok (.iaload, 1) := by decide +kernel
theorem d_Cli_along_52 : decode b_Cli_along 52 = .ok (.istore 5, 2) := by decide +kernel
theorem d_Cli_along_54 : decode b_Cli_along 54 = .ok (.aload_n 0, 1) := by decide +kernel
theorem d_Cli_along_55 : decode b_Cli_along 55 = .ok (.getfield 9, 3) := by decide +kernel
theorem d_Cli_along_58 : decode b_Cli_along 58 = .ok (.iload 4, 2) := by decide +kernel
theorem d_Cli_along_60 : decode b_Cli_along 60 = .ok (.laload, 1) := by decide +kernel
theorem d_Cli_along_61 : decode b_Cli_along 61 = .ok (.aload_n 2, 1) := by decide +kernel
theorem d_Cli_along_62 : decode b_Cli_along 62 = .ok (.getfield 31, 3) := by decide +kernel
theorem d_Cli_along_65 : decode b_Cli_along 65 = .ok (.iload_n 3, 1) := by decide +kernel
theorem d_Cli_along_66 : decode b_Cli_along 66 = .ok (.iaload, 1) := by decide +kernel
theorem d_Cli_along_67 : decode b_Cli_along 67 = .ok (.i2l, 1) := by decide +kernel
theorem d_Cli_along_68 : decode b_Cli_along 68 = .ok (.ladd, 1) := by decide +kernel
theorem d_Cli_along_69 : decode b_Cli_along 69 = .ok (.aload_n 0, 1) := by decide +kernel
theorem d_Cli_along_70 : decode b_Cli_along 70 = .ok (.getfield 9, 3) := by decide +kernel
theorem d_Cli_along_73 : decode b_Cli_along 73 = .ok (.iload 5, 2) := by decide +kernel
theorem d_Cli_along_75 : decode b_Cli_along 75 = .ok (.laload, 1) := by decide +kernel
theorem d_Cli_along_76 : decode b_Cli_along 76 = .ok (.lsub, 1) := by decide +kernel
theorem d_Cli_along_77 : decode b_Cli_along 77 = .ok (.lstore 6, 2) := by decide +kernel
theorem d_Cli_along_79 : decode b_Cli_along 79 = .ok (.aload_n 0, 1) := by decide +kernel
theorem d_Cli_along_80 : decode b_Cli_along 80 = .ok (.getfield 15, 3) := by decide +kernel
theorem d_Cli_along_83 : decode b_Cli_along 83 = .ok (.iload 4, 2) := by decide +kernel
theorem d_Cli_along_85 : decode b_Cli_along 85 = .ok (.iaload, 1) := by decide +kernel
theorem d_Cli_along_86 : decode b_Cli_along 86 = .ok (.aload_n 0, 1) := by decide +kernel
theorem d_Cli_along_87 : decode b_Cli_along 87 = .ok (.getfield 15, 3) := by decide +kernel
theorem d_Cli_along_90 : decode b_Cli_along 90 = .ok (.iload 5, 2) := by decide +kernel
theorem d_Cli_along_92 : decode b_Cli_along 92 = .ok (.iaload, 1) := by decide +kernel
theorem d_Cli_along_93 : decode b_Cli_along 93 = .ok (.if_icmp .eq 26, 3) := by decide +kernel
theorem d_Cli_along_96 : decode b_Cli_along 96 = .ok (.aload_n 0, 1) := by decide +kernel
theorem d_Cli_along_97 : decode b_Cli_along 97 = .ok (.aload_n 0, 1) := by decide +kernel
theorem d_Cli_along_98 : decode b_Cli_along 98 = .ok (.getfield 15, 3) := by decide +kernel
theorem d_Cli_along_101 : decode b_Cli_along 101 = .ok (.iload 4, 2) := by decide +kernel
theorem d_Cli_along_103 : decode b_Cli_along 103 = .ok (.iaload, 1) := by decide +kernel
theorem d_Cli_along_104 : decode b_Cli_along 104 = .ok (.aload_n 0, 1) := by decide +kernel
theorem d_Cli_along_105 : decode b_Cli_along 105 = .ok (.getfield 15, 3) := by decide +kernel
theorem d_Cli_along_108 : decode b_Cli_along 108 = .ok (.iload 5, 2) := by decide +kernel
theorem d_Cli_along_110 : decode b_Cli_along 110 = .ok (.iaload, 1) := by decide +kernel
theorem d_Cli_along_111 : decode b_Cli_along 111 = .ok (.lload 6, 2) := by decide +kernel
theorem d_Cli_along_113 : decode b_Cli_along 113 = .ok (.invokevirtual 36, 3) := by decide +kernel
theorem d_Cli_along_116 : decode b_Cli_along 116 = .ok (.goto 12, 3) := by decide +kernel
theorem d_Cli_along_119 : decode b_Cli_along 119 = .ok (.lload 6, 2) := by decide +kernel
theorem d_Cli_along_121 : decode b_Cli_along 121 = .ok (.lconst 0, 1) := by decide +kernel
theorem d_Cli_along_122 : decode b_Cli_along 122 = .ok (.lcmp, 1) := by decide +kernel
theorem d_Cli_along_123 : decode b_Cli_along 123 = .ok (.ifCond .eq 5, 3) := by decide +kernel
theorem d_Cli_along_126 : decode b_Cli_along 126 = .ok (.iload_n 3, 1) := by decide +kernel
theorem d_Cli_along_127 : decode b_Cli_along 127 = .ok (.ireturn, 1) := by decide +kernel
theorem d_Cli_along_128 : decode b_Cli_along 128 = .ok (.iinc 3 1, 3) := by decide +kernel
theorem d_Cli_along_131 : decode b_Cli_along 131 = .ok (.goto (-101), 3) := by decide +kernel
theorem d_Cli_along_134 : decode b_Cli_along 134 = .ok (.iconst (-1), 1) := by decide +kernel
theorem d_Cli_along_135 : decode b_Cli_along 135 = .ok (.ireturn, 1) := by decide +kernel
def q_Cli_along_L2 (g2 : Nat) (kx28 : Mem → Prop) (post : Int32 → Mem → Prop) : Nat → Int32 → Mem → Prop
  | 0, _, _ => False
  | n + 1, x3, M => ((6 : Int32) ≤ x3 → kx28 M) ∧ (¬ (6 : Int32) ≤ x3 → vp_in x3 6 ∧ (∀ M1, M1 = wJ M 29 x3.toNatClampNeg (0 : Int64) → vp_in x3 6 ∧ (∀ M2, M2 = wI M1 30 x3.toNatClampNeg x3 → q_Cli_along_L2 g2 kx28 post n (x3 + 1) M2)))
set_option maxHeartbeats 4000000 in
theorem s_Cli_along_L2 {γ : Gm} {κ : Kp} {post : Int32 → Mem → Prop} {g2 : Nat} {kx28 : Mem → Prop} (C : Cx γ κ "NetForms$Climb" b_Cli_along 8 2 (0, 0)) (R : Rt γ (some .int)) (h_g2 : g2 < 12) (hx28 : ∀ M', kx28 M' → G γ κ 8 (0, 0) (Gq γ κ (pI post)) 28 [(0, .ref (κ.1 + 28)), (1, .ref (κ.1 + 1)), (2, .ref (κ.1 + (32 + 2 * g2)))] [] M') : ∀ (n : Nat) (x3 : Int32) (M : Mem), q_Cli_along_L2 g2 kx28 post n x3 M → G γ κ 8 (0, 0) (Gq γ κ (pI post)) 2 [(0, .ref (κ.1 + 28)), (1, .ref (κ.1 + 1)), (2, .ref (κ.1 + (32 + 2 * g2))), (3, .int x3)] [] M := by
  intro n
  induction n with
  | zero => intro x3 M hq; exact hq.elim
  | succ n ih =>
    intro x3 M hq
    unfold q_Cli_along_L2 at hq
    refine G_iload_n C 3 d_Cli_along_2 rfl rfl ?_
    refine G_bipush C (v := 6) d_Cli_along_3 (by decide) ?_
    refine G_icmp_ge C (tgt := 28) d_Cli_along_5 (by decide) (fun c => ?_) (fun c => ?_)
    · replace hq := hq.1 c
      exact G_sub [0, 1, 2] (by rfl) (hx28 _ hq)
    · replace hq := hq.2 c
      refine G_aload_n C 0 d_Cli_along_8 rfl rfl ?_
      refine Gg_Cli_climbed C wd_137 d_Cli_along_9 ?_
      refine G_iload_n C 3 d_Cli_along_12 rfl rfl ?_
      refine G_lconst C (v := 0) d_Cli_along_13 (by decide) ?_
      refine G_lastore C (k := 29) (by decide) (fun _ _ => rfl) hq.1 d_Cli_along_14 ?_
      replace hq := hq.2 _ rfl
      refine G_aload_n C 0 d_Cli_along_15 rfl rfl ?_
      refine Gg_Cli_leasts C wd_138 d_Cli_along_16 ?_
      refine G_iload_n C 3 d_Cli_along_19 rfl rfl ?_
      refine G_iload_n C 3 d_Cli_along_20 rfl rfl ?_
      refine G_iastore C (k := 30) (by decide) (fun _ _ => rfl) hq.1 d_Cli_along_21 ?_
      replace hq := hq.2 _ rfl
      refine G_iinc C (v := _ + 1) (lv' := [(3, _), (0, _), (1, _), (2, _)]) 3 d_Cli_along_22 rfl rfl (by decide) rfl ?_
      refine G_goto C (tgt := 2) d_Cli_along_25 (by decide) ?_
      exact G_sub [1, 2, 3, 0] (by rfl) (ih _ _ hq)
def q_Cli_along_L30 (g2 : Nat) (kx126 : Int32 → Mem → Prop) (kx134 : Mem → Prop) (post : Int32 → Mem → Prop) : Nat → Int32 → Mem → Prop
  | 0, _, _ => False
  | n + 1, x3, M => ((M.1 1 1) ≤ x3 → kx134 M) ∧ (¬ (M.1 1 1) ≤ x3 → vp_in x3 12 ∧ (vp_in x3 12 ∧ (vp_in (M.1 2 x3.toNatClampNeg) 6 ∧ (vp_in x3 12 ∧ (vp_in (M.1 3 x3.toNatClampNeg) 6 ∧ (∀ v5, v5 = (((M.2 29 (M.1 2 x3.toNatClampNeg).toNatClampNeg) + ((M.1 (33 + 2 * g2) x3.toNatClampNeg).toInt64)) - (M.2 29 (M.1 3 x3.toNatClampNeg).toNatClampNeg)) → vp_in (M.1 2 x3.toNatClampNeg) 6 ∧ (vp_in (M.1 3 x3.toNatClampNeg) 6 ∧ (((M.1 30 (M.1 2 x3.toNatClampNeg).toNatClampNeg) = (M.1 30 (M.1 3 x3.toNatClampNeg).toNatClampNeg) → (v5 = (0 : Int64) → q_Cli_along_L30 g2 kx126 kx134 post n (x3 + 1) M) ∧ (¬ v5 = (0 : Int64) → kx126 x3 M)) ∧ (¬ (M.1 30 (M.1 2 x3.toNatClampNeg).toNatClampNeg) = (M.1 30 (M.1 3 x3.toNatClampNeg).toNatClampNeg) → vp_in (M.1 2 x3.toNatClampNeg) 6 ∧ (vp_in (M.1 3 x3.toNatClampNeg) 6 ∧ (q_Cli_join (M.1 30 (M.1 2 x3.toNatClampNeg).toNatClampNeg) (M.1 30 (M.1 3 x3.toNatClampNeg).toNatClampNeg) v5 M (fun M6 => q_Cli_along_L30 g2 kx126 kx134 post n (x3 + 1) M6))))))))))))
set_option maxHeartbeats 4000000 in
theorem s_Cli_along_L30 {γ : Gm} {κ : Kp} {post : Int32 → Mem → Prop} {g2 : Nat} {kx126 : Int32 → Mem → Prop} {kx134 : Mem → Prop} (C : Cx γ κ "NetForms$Climb" b_Cli_along 8 2 (0, 0)) (R : Rt γ (some .int)) (h_g2 : g2 < 12) (hx126 : ∀ y0 M', kx126 y0 M' → G γ κ 8 (0, 0) (Gq γ κ (pI post)) 126 [(3, .int y0)] [] M') (hx134 : ∀ M', kx134 M' → G γ κ 8 (0, 0) (Gq γ κ (pI post)) 134 [] [] M') : ∀ (n : Nat) (x3 : Int32) (M : Mem), q_Cli_along_L30 g2 kx126 kx134 post n x3 M → G γ κ 8 (0, 0) (Gq γ κ (pI post)) 30 [(0, .ref (κ.1 + 28)), (1, .ref (κ.1 + 1)), (2, .ref (κ.1 + (32 + 2 * g2))), (3, .int x3)] [] M := by
  intro n
  induction n with
  | zero => intro x3 M hq; exact hq.elim
  | succ n ih =>
    intro x3 M hq
    unfold q_Cli_along_L30 at hq
    refine G_iload_n C 3 d_Cli_along_30 rfl rfl ?_
    refine G_aload_n C 1 d_Cli_along_31 rfl rfl ?_
    refine Gg_Net_edges C wd_29 d_Cli_along_32 ?_
    refine G_icmp_ge C (tgt := 134) d_Cli_along_35 (by decide) (fun c => ?_) (fun c => ?_)
    · replace hq := hq.1 c
      exact G_sub [] (by rfl) (hx134 _ hq)
    · replace hq := hq.2 c
      refine G_aload_n C 1 d_Cli_along_38 rfl rfl ?_
      refine Gg_Net_begins C wd_35 d_Cli_along_39 ?_
      refine G_iload_n C 3 d_Cli_along_42 rfl rfl ?_
      refine G_iaload C (k := 2) (by decide) (fun _ _ => rfl) hq.1 d_Cli_along_43 ?_
      replace hq := hq.2
      refine G_istore C (lv' := [(4, _), (0, _), (1, _), (2, _), (3, _)]) d_Cli_along_44 (by decide) rfl ?_
      refine G_aload_n C 2 d_Cli_along_46 rfl rfl ?_
      refine Gg_Net_ends C wd_39 d_Cli_along_47 ?_
      refine G_iload_n C 4 d_Cli_along_50 rfl rfl ?_
      refine G_iaload C (k := 3) (by decide) (fun _ _ => rfl) hq.1 d_Cli_along_51 ?_
      replace hq := hq.2
      refine G_istore C (lv' := [(5, _), (4, _), (0, _), (1, _), (2, _), (3, _)]) d_Cli_along_52 (by decide) rfl ?_
      refine G_aload_n C 2 d_Cli_along_54 rfl rfl ?_
      refine Gg_Cli_climbed C wd_137 d_Cli_along_55 ?_
      refine G_iload C 1 d_Cli_along_58 rfl ?_
      refine G_laload C (k := 29) (by decide) (fun _ _ => rfl) hq.1 d_Cli_along_60 ?_
      replace hq := hq.2
      refine G_aload_n C 4 d_Cli_along_61 rfl rfl ?_
      refine Gg_Frm_numbers C h_g2 wd_152 d_Cli_along_62 ?_
      refine G_iload_n C 5 d_Cli_along_65 rfl rfl ?_
      refine G_iaload C (by have := h_g2; omega) (sh_formA κ h_g2) hq.1 d_Cli_along_66 ?_
      replace hq := hq.2
      refine G_i2l C d_Cli_along_67 ?_
      refine G_ladd C d_Cli_along_68 ?_
      refine G_aload_n C 2 d_Cli_along_69 rfl rfl ?_
      refine Gg_Cli_climbed C wd_137 d_Cli_along_70 ?_
      refine G_iload C 0 d_Cli_along_73 rfl ?_
      refine G_laload C (k := 29) (by decide) (fun _ _ => rfl) hq.1 d_Cli_along_75 ?_
      replace hq := hq.2
      refine G_lsub C d_Cli_along_76 ?_
      replace hq := hq _ rfl
      refine G_lstore C (lv' := [(6, _), (5, _), (4, _), (0, _), (1, _), (2, _), (3, _)]) d_Cli_along_77 (by decide) rfl ?_
      refine G_aload_n C 3 d_Cli_along_79 rfl rfl ?_
      refine Gg_Cli_leasts C wd_138 d_Cli_along_80 ?_
      refine G_iload C 2 d_Cli_along_83 rfl ?_
      refine G_iaload C (k := 30) (by decide) (fun _ _ => rfl) hq.1 d_Cli_along_85 ?_
      replace hq := hq.2
      refine G_aload_n C 3 d_Cli_along_86 rfl rfl ?_
      refine Gg_Cli_leasts C wd_138 d_Cli_along_87 ?_
      refine G_iload C 1 d_Cli_along_90 rfl ?_
      refine G_iaload C (k := 30) (by decide) (fun _ _ => rfl) hq.1 d_Cli_along_92 ?_
      replace hq := hq.2
      refine G_icmp_eq C (tgt := 119) d_Cli_along_93 (by decide) (fun c => ?_) (fun c => ?_)
      · replace hq := hq.1 c
        refine G_lload C 0 d_Cli_along_119 rfl ?_
        refine G_lconst C (v := 0) d_Cli_along_121 (by decide) ?_
        refine G_lcmp_eq C (tgt := 128) (pc1 := 123) d_Cli_along_122 rfl d_Cli_along_123 (by decide) (fun c => ?_) (fun c => ?_)
        · replace hq := hq.1 c
          refine G_iinc C (v := _ + 1) (lv' := [(3, _), (6, _), (5, _), (4, _), (0, _), (1, _), (2, _)]) 6 d_Cli_along_128 rfl rfl (by decide) rfl ?_
          refine G_goto C (tgt := 30) d_Cli_along_131 (by decide) ?_
          exact G_sub [4, 5, 6, 0] (by rfl) (ih _ _ hq)
        · replace hq := hq.2 c
          exact G_sub [6] (by rfl) (hx126 _ _ hq)
      · replace hq := hq.2 c
        refine G_aload_n C 3 d_Cli_along_96 rfl rfl ?_
        refine G_aload_n C 3 d_Cli_along_97 rfl rfl ?_
        refine Gg_Cli_leasts C wd_138 d_Cli_along_98 ?_
        refine G_iload C 2 d_Cli_along_101 rfl ?_
        refine G_iaload C (k := 30) (by decide) (fun _ _ => rfl) hq.1 d_Cli_along_103 ?_
        replace hq := hq.2
        refine G_aload_n C 3 d_Cli_along_104 rfl rfl ?_
        refine Gg_Cli_leasts C wd_138 d_Cli_along_105 ?_
        refine G_iload C 1 d_Cli_along_108 rfl ?_
        refine G_iaload C (k := 30) (by decide) (fun _ _ => rfl) hq.1 d_Cli_along_110 ?_
        replace hq := hq.2
        refine G_lload C 0 d_Cli_along_111 rfl ?_
        refine G_callV C (s_Cli_join hq) v_Cli_join i_Cli_join z_Cli_join wd_382 (by decide) rfl (k := 28) (ci := 1) (by decide) rfl rfl rfl (rest := []) (by rfl) (Nat.le_of_ble_eq_true rfl) d_Cli_along_113 (kv_ (fun M6 hq => ?_))
        refine G_goto C (tgt := 128) d_Cli_along_116 (by decide) ?_
        refine G_iinc C (v := _ + 1) (lv' := [(3, _), (6, _), (5, _), (4, _), (0, _), (1, _), (2, _)]) 6 d_Cli_along_128 rfl rfl (by decide) rfl ?_
        refine G_goto C (tgt := 30) d_Cli_along_131 (by decide) ?_
        exact G_sub [4, 5, 6, 0] (by rfl) (ih _ _ hq)
def q_Cli_along (f2 : Nat) (M : Mem) (post : Int32 → Mem → Prop) : Prop := ∃ n3, q_Cli_along_L2 f2 (fun M4 => ∃ n7, q_Cli_along_L30 f2 (fun x8 M9 => post x8 M9) (fun M10 => post (-1 : Int32) M10) post n7 (0 : Int32) M4) post n3 (0 : Int32) M
set_option maxHeartbeats 4000000 in
theorem s_Cli_along {l : Launch} {κ : Kp} {f2 : Nat} {M : Mem} {post : Int32 → Mem → Prop} (h_f2 : f2 < 12) (hq : q_Cli_along f2 M post) : Ct l κ y_Cli_along b_Cli_along 8 (some .int) 2 [.ref (κ.1 + 28), .ref (κ.1 + 1), .ref (κ.1 + (32 + 2 * f2))] M (pI post) := by
  refine Ct_of (by decide) (Nat.le_of_ble_eq_true rfl) (fun γ hγ C R => ?_)
  subst hγ
  unfold q_Cli_along at hq
  show G γ κ 8 (0, 0) (Gq γ κ (pI post)) 0 [(0, .ref (κ.1 + 28)), (1, .ref (κ.1 + 1)), (2, .ref (κ.1 + (32 + 2 * f2)))] [] M
  refine G_iconst C (v := 0) d_Cli_along_0 (by decide) ?_
  refine G_istore_n C (lv' := [(3, _), (0, _), (1, _), (2, _)]) d_Cli_along_1 rfl (by decide) rfl ?_
  obtain ⟨n3, hq⟩ := hq
  refine G_sub [1, 2, 3, 0] (by rfl) (s_Cli_along_L2 C R h_f2 ?_ n3 _ _ hq)
  · intro M4 hq
    refine G_iconst C (v := 0) d_Cli_along_28 (by decide) ?_
    refine G_istore_n C (lv' := [(3, _), (0, _), (1, _), (2, _)]) d_Cli_along_29 rfl (by decide) rfl ?_
    obtain ⟨n7, hq⟩ := hq
    refine G_sub [1, 2, 3, 0] (by rfl) (s_Cli_along_L30 C R h_f2 ?_ ?_ n7 _ _ hq)
    · intro x8 M9 hq
      refine G_iload_n C 0 d_Cli_along_126 rfl rfl ?_
      exact G_iret C R d_Cli_along_127 ⟨_, rfl, hq⟩
    · intro M10 hq
      refine G_iconst C (v := -1) d_Cli_along_134 (by decide) ?_
      exact G_iret C R d_Cli_along_135 ⟨_, rfl, hq⟩
theorem d_Nf_lowestTerms_0 : decode b_Nf_lowestTerms 0 = .ok (.lload_n 0, 1) := by decide +kernel
theorem d_Nf_lowestTerms_1 : decode b_Nf_lowestTerms 1 = .ok (.lload_n 2, 1) := by decide +kernel
theorem d_Nf_lowestTerms_2 : decode b_Nf_lowestTerms 2 = .ok (.invokestatic 268, 3) := by decide +kernel
theorem d_Nf_lowestTerms_5 : decode b_Nf_lowestTerms 5 = .ok (.lstore 5, 2) := by decide +kernel
theorem d_Nf_lowestTerms_7 : decode b_Nf_lowestTerms 7 = .ok (.iload 4, 2) := by decide +kernel
theorem d_Nf_lowestTerms_9 : decode b_Nf_lowestTerms 9 = .ok (.ifCond .ne 7, 3) := by decide +kernel
theorem d_Nf_lowestTerms_12 : decode b_Nf_lowestTerms 12 = .ok (.lload_n 0, 1) := by decide +kernel
theorem d_Nf_lowestTerms_13 : decode b_Nf_lowestTerms 13 = .ok (.goto 4, 3) := by decide +kernel
theorem d_Nf_lowestTerms_16 : decode b_Nf_lowestTerms 16 = .ok (.lload_n 2, 1) := by decide +kernel
theorem d_Nf_lowestTerms_17 : decode b_Nf_lowestTerms 17 = .ok (.lload 5, 2) := by decide +kernel
theorem d_Nf_lowestTerms_19 : decode b_Nf_lowestTerms 19 = .ok (.invokestatic 272, 3) := by decide +kernel
theorem d_Nf_lowestTerms_22 : decode b_Nf_lowestTerms 22 = .ok (.lreturn, 1) := by decide +kernel
def q_Nf_lowestTerms (a0 : Int64) (a2 : Int64) (a4 : Int32) (M : Mem) (post : Int64 → Mem → Prop) : Prop := q_Nf_sharedDivisor a0 a2 M (fun r2 M1 => (¬ a4 = 0 → q_Nf_quotient a2 r2 M1 (fun r4 M3 => post r4 M3)) ∧ (a4 = 0 → q_Nf_quotient a0 r2 M1 (fun r6 M5 => post r6 M5)))
set_option maxHeartbeats 4000000 in
theorem s_Nf_lowestTerms {l : Launch} {κ : Kp} {a0 : Int64} {a2 : Int64} {a4 : Int32} {M : Mem} {post : Int64 → Mem → Prop} (hq : q_Nf_lowestTerms a0 a2 a4 M post) : Ct l κ y_Nf_lowestTerms b_Nf_lowestTerms 7 (some .long) 2 [.long a0, .long a2, .int a4] M (pJ post) := by
  refine Ct_of (by decide) (Nat.le_of_ble_eq_true rfl) (fun γ hγ C R => ?_)
  subst hγ
  unfold q_Nf_lowestTerms at hq
  show G γ κ 7 (0, 0) (Gq γ κ (pJ post)) 0 [(0, .long a0), (2, .long a2), (4, .int a4)] [] M
  refine G_lload_n C 0 d_Nf_lowestTerms_0 rfl rfl ?_
  refine G_lload_n C 1 d_Nf_lowestTerms_1 rfl rfl ?_
  refine G_callS C (s_Nf_sharedDivisor hq) v_Nf_sharedDivisor z_Nf_sharedDivisor wd_412 (by decide) rfl (rest := []) (by rfl) (Nat.le_of_ble_eq_true rfl) d_Nf_lowestTerms_2 (kj_ (fun r2 M1 hq => ?_))
  refine G_lstore C (lv' := [(5, _), (0, _), (2, _), (4, _)]) d_Nf_lowestTerms_5 (by decide) rfl ?_
  refine G_iload C 3 d_Nf_lowestTerms_7 rfl ?_
  refine G_if_ne C (tgt := 16) d_Nf_lowestTerms_9 (by decide) (fun c => ?_) (fun c => ?_)
  · replace hq := hq.1 c
    refine G_lload_n C 2 d_Nf_lowestTerms_16 rfl rfl ?_
    refine G_lload C 0 d_Nf_lowestTerms_17 rfl ?_
    refine G_callS C (s_Nf_quotient hq) v_Nf_quotient z_Nf_quotient wd_418 (by decide) rfl (rest := []) (by rfl) (Nat.le_of_ble_eq_true rfl) d_Nf_lowestTerms_19 (kj_ (fun r4 M3 hq => ?_))
    exact G_lret C R d_Nf_lowestTerms_22 ⟨_, rfl, hq⟩
  · replace hq := hq.2 c
    refine G_lload_n C 1 d_Nf_lowestTerms_12 rfl rfl ?_
    refine G_goto C (tgt := 17) d_Nf_lowestTerms_13 (by decide) ?_
    refine G_lload C 0 d_Nf_lowestTerms_17 rfl ?_
    refine G_callS C (s_Nf_quotient hq) v_Nf_quotient z_Nf_quotient wd_418 (by decide) rfl (rest := []) (by rfl) (Nat.le_of_ble_eq_true rfl) d_Nf_lowestTerms_19 (kj_ (fun r6 M5 hq => ?_))
    exact G_lret C R d_Nf_lowestTerms_22 ⟨_, rfl, hq⟩
theorem d_Nf_wall_0 : decode b_Nf_wall 0 = .ok (.aload_n 0, 1) := by decide +kernel
theorem d_Nf_wall_1 : decode b_Nf_wall 1 = .ok (.getfield 10, 3) := by decide +kernel
theorem d_Nf_wall_4 : decode b_Nf_wall 4 = .ok (.iconst 0, 1) := by decide +kernel
theorem d_Nf_wall_5 : decode b_Nf_wall 5 = .ok (.iload_n 1, 1) := by decide +kernel
theorem d_Nf_wall_6 : decode b_Nf_wall 6 = .ok (.invokevirtual 63, 3) := by decide +kernel
theorem d_Nf_wall_9 : decode b_Nf_wall 9 = .ok (.ifCond .eq 14, 3) := by decide +kernel
theorem d_Nf_wall_12 : decode b_Nf_wall 12 = .ok (.iload_n 2, 1) := by decide +kernel
theorem d_Nf_wall_13 : decode b_Nf_wall 13 = .ok (.i2l, 1) := by decide +kernel
theorem d_Nf_wall_14 : decode b_Nf_wall 14 = .ok (.sipush 1000, 3) := by decide +kernel
theorem d_Nf_wall_17 : decode b_Nf_wall 17 = .ok (.invokestatic 99, 3) := by decide +kernel
theorem d_Nf_wall_20 : decode b_Nf_wall 20 = .ok (.ifCond .ne 6, 3) := by decide +kernel
theorem d_Nf_wall_23 : decode b_Nf_wall 23 = .ok (.bipush (-2), 2) := by decide +kernel
theorem d_Nf_wall_25 : decode b_Nf_wall 25 = .ok (.ireturn, 1) := by decide +kernel
theorem d_Nf_wall_26 : decode b_Nf_wall 26 = .ok (.aload_n 0, 1) := by decide +kernel
theorem d_Nf_wall_27 : decode b_Nf_wall 27 = .ok (.getfield 25, 3) := by decide +kernel
theorem d_Nf_wall_30 : decode b_Nf_wall 30 = .ok (.getfield 179, 3) := by decide +kernel
theorem d_Nf_wall_33 : decode b_Nf_wall 33 = .ok (.iload_n 1, 1) := by decide +kernel
theorem d_Nf_wall_34 : decode b_Nf_wall 34 = .ok (.iconst 1, 1) := by decide +kernel
theorem d_Nf_wall_35 : decode b_Nf_wall 35 = .ok (.bastore, 1) := by decide +kernel
theorem d_Nf_wall_36 : decode b_Nf_wall 36 = .ok (.aload_n 0, 1) := by decide +kernel
theorem d_Nf_wall_37 : decode b_Nf_wall 37 = .ok (.getfield 25, 3) := by decide +kernel
theorem d_Nf_wall_40 : decode b_Nf_wall 40 = .ok (.getfield 183, 3) := by decide +kernel
theorem d_Nf_wall_43 : decode b_Nf_wall 43 = .ok (.iload_n 1, 1) := by decide +kernel
theorem d_Nf_wall_44 : decode b_Nf_wall 44 = .ok (.iload_n 2, 1) := by decide +kernel
theorem d_Nf_wall_45 : decode b_Nf_wall 45 = .ok (.iastore, 1) := by decide +kernel
theorem d_Nf_wall_46 : decode b_Nf_wall 46 = .ok (.iconst 1, 1) := by decide +kernel
theorem d_Nf_wall_47 : decode b_Nf_wall 47 = .ok (.ireturn, 1) := by decide +kernel
def q_Nf_wall (a1 : Int32) (a2 : Int32) (M : Mem) (post : Int32 → Mem → Prop) : Prop := q_Net_has (0 : Int32) a1 M (fun r2 M1 => (r2 = 0 → post (-2 : Int32) M1) ∧ (¬ r2 = 0 → q_Nf_isWithin a2.toInt64 (1000 : Int32) M1 (fun r4 M3 => (¬ r4 = 0 → vp_in a1 6 ∧ (∀ M5, M5 = wI M3 10 a1.toNatClampNeg (1 : Int32) → vp_in a1 6 ∧ (∀ M6, M6 = wI M5 11 a1.toNatClampNeg a2 → post (1 : Int32) M6))) ∧ (r4 = 0 → post (-2 : Int32) M3))))
set_option maxHeartbeats 4000000 in
theorem s_Nf_wall {l : Launch} {κ : Kp} {a1 : Int32} {a2 : Int32} {M : Mem} {post : Int32 → Mem → Prop} (hq : q_Nf_wall a1 a2 M post) : Ct l κ y_Nf_wall b_Nf_wall 3 (some .int) 2 [.ref (κ.1 + 0), .int a1, .int a2] M (pI post) := by
  refine Ct_of (by decide) (Nat.le_of_ble_eq_true rfl) (fun γ hγ C R => ?_)
  subst hγ
  unfold q_Nf_wall at hq
  show G γ κ 3 (0, 0) (Gq γ κ (pI post)) 0 [(0, .ref (κ.1 + 0)), (1, .int a1), (2, .int a2)] [] M
  refine G_aload_n C 0 d_Nf_wall_0 rfl rfl ?_
  refine Gg_Nf_shape C wd_163 d_Nf_wall_1 ?_
  refine G_iconst C (v := 0) d_Nf_wall_4 (by decide) ?_
  refine G_iload_n C 1 d_Nf_wall_5 rfl rfl ?_
  refine G_callV C (s_Net_has hq) v_Net_has i_Net_has z_Net_has wd_211 (by decide) rfl (k := 1) (ci := 3) (by decide) rfl rfl rfl (rest := []) (by rfl) (Nat.le_of_ble_eq_true rfl) d_Nf_wall_6 (ki_ (fun r2 M1 hq => ?_))
  refine G_if_eq C (tgt := 23) d_Nf_wall_9 (by decide) (fun c => ?_) (fun c => ?_)
  · replace hq := hq.1 c
    refine G_bipush C (v := -2) d_Nf_wall_23 (by decide) ?_
    exact G_iret C R d_Nf_wall_25 ⟨_, rfl, hq⟩
  · replace hq := hq.2 c
    refine G_iload_n C 2 d_Nf_wall_12 rfl rfl ?_
    refine G_i2l C d_Nf_wall_13 ?_
    refine G_sipush C (v := 1000) d_Nf_wall_14 (by decide) ?_
    refine G_callS C (s_Nf_isWithin hq) v_Nf_isWithin z_Nf_isWithin wd_266 (by decide) rfl (rest := []) (by rfl) (Nat.le_of_ble_eq_true rfl) d_Nf_wall_17 (ki_ (fun r4 M3 hq => ?_))
    refine G_if_ne C (tgt := 26) d_Nf_wall_20 (by decide) (fun c => ?_) (fun c => ?_)
    · replace hq := hq.1 c
      refine G_aload_n C 0 d_Nf_wall_26 rfl rfl ?_
      refine Gg_Nf_walls C wd_165 d_Nf_wall_27 ?_
      refine Gg_Wal_there C wd_76 d_Nf_wall_30 ?_
      refine G_iload_n C 1 d_Nf_wall_33 rfl rfl ?_
      refine G_iconst C (v := 1) d_Nf_wall_34 (by decide) ?_
      refine G_bastore C (k := 10) (by decide) (fun _ _ => rfl) hq.1 (x2 := (1 : Int32)) (by decide) d_Nf_wall_35 ?_
      replace hq := hq.2 _ rfl
      refine G_aload_n C 0 d_Nf_wall_36 rfl rfl ?_
      refine Gg_Nf_walls C wd_165 d_Nf_wall_37 ?_
      refine Gg_Wal_numbers C wd_78 d_Nf_wall_40 ?_
      refine G_iload_n C 1 d_Nf_wall_43 rfl rfl ?_
      refine G_iload_n C 2 d_Nf_wall_44 rfl rfl ?_
      refine G_iastore C (k := 11) (by decide) (fun _ _ => rfl) hq.1 d_Nf_wall_45 ?_
      replace hq := hq.2 _ rfl
      refine G_iconst C (v := 1) d_Nf_wall_46 (by decide) ?_
      exact G_iret C R d_Nf_wall_47 ⟨_, rfl, hq⟩
    · replace hq := hq.2 c
      refine G_bipush C (v := -2) d_Nf_wall_23 (by decide) ?_
      exact G_iret C R d_Nf_wall_25 ⟨_, rfl, hq⟩
theorem d_Nf_open_0 : decode b_Nf_open 0 = .ok (.aload_n 0, 1) := by decide +kernel
theorem d_Nf_open_1 : decode b_Nf_open 1 = .ok (.getfield 10, 3) := by decide +kernel
theorem d_Nf_open_4 : decode b_Nf_open 4 = .ok (.iconst 0, 1) := by decide +kernel
theorem d_Nf_open_5 : decode b_Nf_open 5 = .ok (.iload_n 1, 1) := by decide +kernel
theorem d_Nf_open_6 : decode b_Nf_open 6 = .ok (.invokevirtual 63, 3) := by decide +kernel
theorem d_Nf_open_9 : decode b_Nf_open 9 = .ok (.ifCond .ne 6, 3) := by decide +kernel
theorem d_Nf_open_12 : decode b_Nf_open 12 = .ok (.ldc 103, 2) := by decide +kernel
theorem d_Nf_open_14 : decode b_Nf_open 14 = .ok (.ireturn, 1) := by decide +kernel
theorem d_Nf_open_15 : decode b_Nf_open 15 = .ok (.aload_n 0, 1) := by decide +kernel
theorem d_Nf_open_16 : decode b_Nf_open 16 = .ok (.getfield 25, 3) := by decide +kernel
theorem d_Nf_open_19 : decode b_Nf_open 19 = .ok (.getfield 179, 3) := by decide +kernel
theorem d_Nf_open_22 : decode b_Nf_open 22 = .ok (.iload_n 1, 1) := by decide +kernel
theorem d_Nf_open_23 : decode b_Nf_open 23 = .ok (.baload, 1) := by decide +kernel
theorem d_Nf_open_24 : decode b_Nf_open 24 = .ok (.ifCond .ne 6, 3) := by decide +kernel
theorem d_Nf_open_27 : decode b_Nf_open 27 = .ok (.ldc 184, 2) := by decide +kernel
theorem d_Nf_open_29 : decode b_Nf_open 29 = .ok (.ireturn, 1) := by decide +kernel
theorem d_Nf_open_30 : decode b_Nf_open 30 = .ok (.aload_n 0, 1) := by decide +kernel
theorem d_Nf_open_31 : decode b_Nf_open 31 = .ok (.getfield 25, 3) := by decide +kernel
theorem d_Nf_open_34 : decode b_Nf_open 34 = .ok (.getfield 179, 3) := by decide +kernel
theorem d_Nf_open_37 : decode b_Nf_open 37 = .ok (.iload_n 1, 1) := by decide +kernel
theorem d_Nf_open_38 : decode b_Nf_open 38 = .ok (.iconst 0, 1) := by decide +kernel
theorem d_Nf_open_39 : decode b_Nf_open 39 = .ok (.bastore, 1) := by decide +kernel
theorem d_Nf_open_40 : decode b_Nf_open 40 = .ok (.aload_n 0, 1) := by decide +kernel
theorem d_Nf_open_41 : decode b_Nf_open 41 = .ok (.getfield 25, 3) := by decide +kernel
theorem d_Nf_open_44 : decode b_Nf_open 44 = .ok (.getfield 183, 3) := by decide +kernel
theorem d_Nf_open_47 : decode b_Nf_open 47 = .ok (.iload_n 1, 1) := by decide +kernel
theorem d_Nf_open_48 : decode b_Nf_open 48 = .ok (.iaload, 1) := by decide +kernel
theorem d_Nf_open_49 : decode b_Nf_open 49 = .ok (.ireturn, 1) := by decide +kernel
def q_Nf_open (a1 : Int32) (M : Mem) (post : Int32 → Mem → Prop) : Prop := q_Net_has (0 : Int32) a1 M (fun r2 M1 => (¬ r2 = 0 → vp_in a1 6 ∧ ((¬ (M1.1 10 a1.toNatClampNeg) = 0 → vp_in a1 6 ∧ (∀ M3, M3 = wI M1 10 a1.toNatClampNeg (0 : Int32) → vp_in a1 6 ∧ (post (M3.1 11 a1.toNatClampNeg) M3))) ∧ ((M1.1 10 a1.toNatClampNeg) = 0 → post (-1000000 : Int32) M1))) ∧ (r2 = 0 → post (-2000000 : Int32) M1))
set_option maxHeartbeats 4000000 in
theorem s_Nf_open {l : Launch} {κ : Kp} {a1 : Int32} {M : Mem} {post : Int32 → Mem → Prop} (hq : q_Nf_open a1 M post) : Ct l κ y_Nf_open b_Nf_open 2 (some .int) 2 [.ref (κ.1 + 0), .int a1] M (pI post) := by
  refine Ct_of (by decide) (Nat.le_of_ble_eq_true rfl) (fun γ hγ C R => ?_)
  subst hγ
  unfold q_Nf_open at hq
  show G γ κ 2 (0, 0) (Gq γ κ (pI post)) 0 [(0, .ref (κ.1 + 0)), (1, .int a1)] [] M
  refine G_aload_n C 0 d_Nf_open_0 rfl rfl ?_
  refine Gg_Nf_shape C wd_163 d_Nf_open_1 ?_
  refine G_iconst C (v := 0) d_Nf_open_4 (by decide) ?_
  refine G_iload_n C 1 d_Nf_open_5 rfl rfl ?_
  refine G_callV C (s_Net_has hq) v_Net_has i_Net_has z_Net_has wd_211 (by decide) rfl (k := 1) (ci := 3) (by decide) rfl rfl rfl (rest := []) (by rfl) (Nat.le_of_ble_eq_true rfl) d_Nf_open_6 (ki_ (fun r2 M1 hq => ?_))
  refine G_if_ne C (tgt := 15) d_Nf_open_9 (by decide) (fun c => ?_) (fun c => ?_)
  · replace hq := hq.1 c
    refine G_aload_n C 0 d_Nf_open_15 rfl rfl ?_
    refine Gg_Nf_walls C wd_165 d_Nf_open_16 ?_
    refine Gg_Wal_there C wd_76 d_Nf_open_19 ?_
    refine G_iload_n C 1 d_Nf_open_22 rfl rfl ?_
    refine G_baload C (k := 10) (by decide) (fun _ _ => rfl) hq.1 d_Nf_open_23 ?_
    replace hq := hq.2
    refine G_if_ne C (tgt := 30) d_Nf_open_24 (by decide) (fun c => ?_) (fun c => ?_)
    · replace hq := hq.1 c
      refine G_aload_n C 0 d_Nf_open_30 rfl rfl ?_
      refine Gg_Nf_walls C wd_165 d_Nf_open_31 ?_
      refine Gg_Wal_there C wd_76 d_Nf_open_34 ?_
      refine G_iload_n C 1 d_Nf_open_37 rfl rfl ?_
      refine G_iconst C (v := 0) d_Nf_open_38 (by decide) ?_
      refine G_bastore C (k := 10) (by decide) (fun _ _ => rfl) hq.1 (x2 := (0 : Int32)) (by decide) d_Nf_open_39 ?_
      replace hq := hq.2 _ rfl
      refine G_aload_n C 0 d_Nf_open_40 rfl rfl ?_
      refine Gg_Nf_walls C wd_165 d_Nf_open_41 ?_
      refine Gg_Wal_numbers C wd_78 d_Nf_open_44 ?_
      refine G_iload_n C 1 d_Nf_open_47 rfl rfl ?_
      refine G_iaload C (k := 11) (by decide) (fun _ _ => rfl) hq.1 d_Nf_open_48 ?_
      replace hq := hq.2
      exact G_iret C R d_Nf_open_49 ⟨_, rfl, hq⟩
    · replace hq := hq.2 c
      refine G_ldc C (v := -1000000) wd_435 d_Nf_open_27 ?_
      exact G_iret C R d_Nf_open_29 ⟨_, rfl, hq⟩
  · replace hq := hq.2 c
    refine G_ldc C (v := -2000000) wd_269 d_Nf_open_12 ?_
    exact G_iret C R d_Nf_open_14 ⟨_, rfl, hq⟩
theorem d_Nf_field_0 : decode b_Nf_field 0 = .ok (.aload_n 0, 1) := by decide +kernel
theorem d_Nf_field_1 : decode b_Nf_field 1 = .ok (.getfield 25, 3) := by decide +kernel
theorem d_Nf_field_4 : decode b_Nf_field 4 = .ok (.aload_n 0, 1) := by decide +kernel
theorem d_Nf_field_5 : decode b_Nf_field 5 = .ok (.getfield 10, 3) := by decide +kernel
theorem d_Nf_field_8 : decode b_Nf_field 8 = .ok (.invokevirtual 185, 3) := by decide +kernel
theorem d_Nf_field_11 : decode b_Nf_field 11 = .ok (.ireturn, 1) := by decide +kernel
def q_Nf_field (M : Mem) (post : Int32 → Mem → Prop) : Prop := q_Wal_leastWithout M (fun r2 M1 => post r2 M1)
set_option maxHeartbeats 4000000 in
theorem s_Nf_field {l : Launch} {κ : Kp} {M : Mem} {post : Int32 → Mem → Prop} (hq : q_Nf_field M post) : Ct l κ y_Nf_field b_Nf_field 1 (some .int) 2 [.ref (κ.1 + 0)] M (pI post) := by
  refine Ct_of (by decide) (Nat.le_of_ble_eq_true rfl) (fun γ hγ C R => ?_)
  subst hγ
  unfold q_Nf_field at hq
  show G γ κ 1 (0, 0) (Gq γ κ (pI post)) 0 [(0, .ref (κ.1 + 0))] [] M
  refine G_aload_n C 0 d_Nf_field_0 rfl rfl ?_
  refine Gg_Nf_walls C wd_165 d_Nf_field_1 ?_
  refine G_aload_n C 0 d_Nf_field_4 rfl rfl ?_
  refine Gg_Nf_shape C wd_163 d_Nf_field_5 ?_
  refine G_callV C (s_Wal_leastWithout hq) v_Wal_leastWithout i_Wal_leastWithout z_Wal_leastWithout wd_440 (by decide) rfl (k := 9) (ci := 4) (by decide) rfl rfl rfl (rest := []) (by rfl) (Nat.le_of_ble_eq_true rfl) d_Nf_field_8 (ki_ (fun r2 M1 hq => ?_))
  exact G_iret C R d_Nf_field_11 ⟨_, rfl, hq⟩
theorem d_Nf_raise_0 : decode b_Nf_raise 0 = .ok (.aload_n 0, 1) := by decide +kernel
theorem d_Nf_raise_1 : decode b_Nf_raise 1 = .ok (.iload_n 1, 1) := by decide +kernel
theorem d_Nf_raise_2 : decode b_Nf_raise 2 = .ok (.invokevirtual 91, 3) := by decide +kernel
theorem d_Nf_raise_5 : decode b_Nf_raise 5 = .ok (.astore_n 2, 1) := by decide +kernel
theorem d_Nf_raise_6 : decode b_Nf_raise 6 = .ok (.aload_n 2, 1) := by decide +kernel
theorem d_Nf_raise_7 : decode b_Nf_raise 7 = .ok (.ifnonnull 6, 3) := by decide +kernel
theorem d_Nf_raise_10 : decode b_Nf_raise 10 = .ok (.bipush (-2), 2) := by decide +kernel
theorem d_Nf_raise_12 : decode b_Nf_raise 12 = .ok (.ireturn, 1) := by decide +kernel
theorem d_Nf_raise_13 : decode b_Nf_raise 13 = .ok (.aload_n 2, 1) := by decide +kernel
theorem d_Nf_raise_14 : decode b_Nf_raise 14 = .ok (.getfield 95, 3) := by decide +kernel
theorem d_Nf_raise_17 : decode b_Nf_raise 17 = .ok (.iconst 2, 1) := by decide +kernel
theorem d_Nf_raise_18 : decode b_Nf_raise 18 = .ok (.if_icmp .ne 6, 3) := by decide +kernel
theorem d_Nf_raise_21 : decode b_Nf_raise 21 = .ok (.bipush (-3), 2) := by decide +kernel
theorem d_Nf_raise_23 : decode b_Nf_raise 23 = .ok (.ireturn, 1) := by decide +kernel
theorem d_Nf_raise_24 : decode b_Nf_raise 24 = .ok (.aload_n 0, 1) := by decide +kernel
theorem d_Nf_raise_25 : decode b_Nf_raise 25 = .ok (.getfield 32, 3) := by decide +kernel
theorem d_Nf_raise_28 : decode b_Nf_raise 28 = .ok (.invokevirtual 62, 3) := by decide +kernel
theorem d_Nf_raise_31 : decode b_Nf_raise 31 = .ok (.iconst 0, 1) := by decide +kernel
theorem d_Nf_raise_32 : decode b_Nf_raise 32 = .ok (.istore_n 3, 1) := by decide +kernel
theorem d_Nf_raise_33 : decode b_Nf_raise 33 = .ok (.iload_n 3, 1) := by decide +kernel
theorem d_Nf_raise_34 : decode b_Nf_raise 34 = .ok (.aload_n 0, 1) := by decide +kernel
theorem d_Nf_raise_35 : decode b_Nf_raise 35 = .ok (.getfield 10, 3) := by decide +kernel
theorem d_Nf_raise_38 : decode b_Nf_raise 38 = .ok (.aload_n 2, 1) := by decide +kernel
theorem d_Nf_raise_39 : decode b_Nf_raise 39 = .ok (.getfield 95, 3) := by decide +kernel
theorem d_Nf_raise_42 : decode b_Nf_raise 42 = .ok (.invokevirtual 119, 3) := by decide +kernel
theorem d_Nf_raise_45 : decode b_Nf_raise 45 = .ok (.if_icmp .ge 51, 3) := by decide +kernel
theorem d_Nf_raise_48 : decode b_Nf_raise 48 = .ok (.aload_n 2, 1) := by decide +kernel
theorem d_Nf_raise_49 : decode b_Nf_raise 49 = .ok (.getfield 95, 3) := by decide +kernel
theorem d_Nf_raise_52 : decode b_Nf_raise 52 = .ok (.ifCond .ne 22, 3) := by decide +kernel
theorem d_Nf_raise_55 : decode b_Nf_raise 55 = .ok (.aload_n 0, 1) := by decide +kernel
theorem d_Nf_raise_56 : decode b_Nf_raise 56 = .ok (.getfield 32, 3) := by decide +kernel
theorem d_Nf_raise_59 : decode b_Nf_raise 59 = .ok (.getfield 205, 3) := by decide +kernel
theorem d_Nf_raise_62 : decode b_Nf_raise 62 = .ok (.iload_n 3, 1) := by decide +kernel
theorem d_Nf_raise_63 : decode b_Nf_raise 63 = .ok (.aload_n 2, 1) := by decide +kernel
theorem d_Nf_raise_64 : decode b_Nf_raise 64 = .ok (.getfield 104, 3) := by decide +kernel
theorem d_Nf_raise_67 : decode b_Nf_raise 67 = .ok (.iload_n 3, 1) := by decide +kernel
theorem d_Nf_raise_68 : decode b_Nf_raise 68 = .ok (.iaload, 1) := by decide +kernel
theorem d_Nf_raise_69 : decode b_Nf_raise 69 = .ok (.i2l, 1) := by decide +kernel
theorem d_Nf_raise_70 : decode b_Nf_raise 70 = .ok (.lastore, 1) := by decide +kernel
theorem d_Nf_raise_71 : decode b_Nf_raise 71 = .ok (.goto 19, 3) := by decide +kernel
theorem d_Nf_raise_74 : decode b_Nf_raise 74 = .ok (.aload_n 0, 1) := by decide +kernel
theorem d_Nf_raise_75 : decode b_Nf_raise 75 = .ok (.getfield 32, 3) := by decide +kernel
theorem d_Nf_raise_78 : decode b_Nf_raise 78 = .ok (.getfield 208, 3) := by decide +kernel
theorem d_Nf_raise_81 : decode b_Nf_raise 81 = .ok (.iload_n 3, 1) := by decide +kernel
theorem d_Nf_raise_82 : decode b_Nf_raise 82 = .ok (.aload_n 2, 1) := by decide +kernel
theorem d_Nf_raise_83 : decode b_Nf_raise 83 = .ok (.getfield 104, 3) := by decide +kernel
theorem d_Nf_raise_86 : decode b_Nf_raise 86 = .ok (.iload_n 3, 1) := by decide +kernel
theorem d_Nf_raise_87 : decode b_Nf_raise 87 = .ok (.iaload, 1) := by decide +kernel
theorem d_Nf_raise_88 : decode b_Nf_raise 88 = .ok (.i2l, 1) := by decide +kernel
theorem d_Nf_raise_89 : decode b_Nf_raise 89 = .ok (.lastore, 1) := by decide +kernel
theorem d_Nf_raise_90 : decode b_Nf_raise 90 = .ok (.iinc 3 1, 3) := by decide +kernel
theorem d_Nf_raise_93 : decode b_Nf_raise 93 = .ok (.goto (-60), 3) := by decide +kernel
theorem d_Nf_raise_96 : decode b_Nf_raise 96 = .ok (.iconst 1, 1) := by decide +kernel
theorem d_Nf_raise_97 : decode b_Nf_raise 97 = .ok (.ireturn, 1) := by decide +kernel
def q_Nf_raise_L33 (g2 : Nat) (kx96 : Mem → Prop) (post : Int32 → Mem → Prop) : Nat → Int32 → Mem → Prop
  | 0, _, _ => False
  | n + 1, x3, M => q_Net_size (M.1 (32 + 2 * g2) 0) M (fun r6 M5 => (r6 ≤ x3 → kx96 M5) ∧ (¬ r6 ≤ x3 → (¬ (M5.1 (32 + 2 * g2) 0) = 0 → vp_in x3 12 ∧ (vp_in x3 12 ∧ (∀ M7, M7 = wJ M5 14 x3.toNatClampNeg ((M5.1 (33 + 2 * g2) x3.toNatClampNeg).toInt64) → q_Nf_raise_L33 g2 kx96 post n (x3 + 1) M7))) ∧ ((M5.1 (32 + 2 * g2) 0) = 0 → vp_in x3 12 ∧ (vp_in x3 6 ∧ (∀ M8, M8 = wJ M5 13 x3.toNatClampNeg ((M5.1 (33 + 2 * g2) x3.toNatClampNeg).toInt64) → q_Nf_raise_L33 g2 kx96 post n (x3 + 1) M8)))))
set_option maxHeartbeats 4000000 in
theorem s_Nf_raise_L33 {γ : Gm} {κ : Kp} {post : Int32 → Mem → Prop} {g2 : Nat} {kx96 : Mem → Prop} (C : Cx γ κ "NetForms" b_Nf_raise 4 2 (0, 0)) (R : Rt γ (some .int)) (h_g2 : g2 < 12) (hx96 : ∀ M', kx96 M' → G γ κ 4 (0, 0) (Gq γ κ (pI post)) 96 [] [] M') : ∀ (n : Nat) (x3 : Int32) (M : Mem), q_Nf_raise_L33 g2 kx96 post n x3 M → G γ κ 4 (0, 0) (Gq γ κ (pI post)) 33 [(0, .ref (κ.1 + 0)), (2, .ref (κ.1 + (32 + 2 * g2))), (3, .int x3)] [] M := by
  intro n
  induction n with
  | zero => intro x3 M hq; exact hq.elim
  | succ n ih =>
    intro x3 M hq
    unfold q_Nf_raise_L33 at hq
    refine G_iload_n C 2 d_Nf_raise_33 rfl rfl ?_
    refine G_aload_n C 0 d_Nf_raise_34 rfl rfl ?_
    refine Gg_Nf_shape C wd_163 d_Nf_raise_35 ?_
    refine G_aload_n C 1 d_Nf_raise_38 rfl rfl ?_
    refine Gg_Frm_degree C h_g2 wd_150 d_Nf_raise_39 ?_
    refine G_callV C (s_Net_size hq) v_Net_size i_Net_size z_Net_size wd_282 (by decide) rfl (k := 1) (ci := 3) (by decide) rfl rfl rfl (rest := [_]) (by rfl) (Nat.le_of_ble_eq_true rfl) d_Nf_raise_42 (ki_ (fun r6 M5 hq => ?_))
    refine G_icmp_ge C (tgt := 96) d_Nf_raise_45 (by decide) (fun c => ?_) (fun c => ?_)
    · replace hq := hq.1 c
      exact G_sub [] (by rfl) (hx96 _ hq)
    · replace hq := hq.2 c
      refine G_aload_n C 1 d_Nf_raise_48 rfl rfl ?_
      refine Gg_Frm_degree C h_g2 wd_150 d_Nf_raise_49 ?_
      refine G_if_ne C (tgt := 74) d_Nf_raise_52 (by decide) (fun c => ?_) (fun c => ?_)
      · replace hq := hq.1 c
        refine G_aload_n C 0 d_Nf_raise_74 rfl rfl ?_
        refine Gg_Nf_motion C wd_166 d_Nf_raise_75 ?_
        refine Gg_Wav_flows C wd_96 d_Nf_raise_78 ?_
        refine G_iload_n C 2 d_Nf_raise_81 rfl rfl ?_
        refine G_aload_n C 1 d_Nf_raise_82 rfl rfl ?_
        refine Gg_Frm_numbers C h_g2 wd_153 d_Nf_raise_83 ?_
        refine G_iload_n C 2 d_Nf_raise_86 rfl rfl ?_
        refine G_iaload C (by have := h_g2; omega) (sh_formA κ h_g2) hq.1 d_Nf_raise_87 ?_
        replace hq := hq.2
        refine G_i2l C d_Nf_raise_88 ?_
        refine G_lastore C (k := 14) (by decide) (fun _ _ => rfl) hq.1 d_Nf_raise_89 ?_
        replace hq := hq.2 _ rfl
        refine G_iinc C (v := _ + 1) (lv' := [(3, _), (0, _), (2, _)]) 2 d_Nf_raise_90 rfl rfl (by decide) rfl ?_
        refine G_goto C (tgt := 33) d_Nf_raise_93 (by decide) ?_
        exact G_sub [1, 2, 0] (by rfl) (ih _ _ hq)
      · replace hq := hq.2 c
        refine G_aload_n C 0 d_Nf_raise_55 rfl rfl ?_
        refine Gg_Nf_motion C wd_166 d_Nf_raise_56 ?_
        refine Gg_Wav_levels C wd_94 d_Nf_raise_59 ?_
        refine G_iload_n C 2 d_Nf_raise_62 rfl rfl ?_
        refine G_aload_n C 1 d_Nf_raise_63 rfl rfl ?_
        refine Gg_Frm_numbers C h_g2 wd_153 d_Nf_raise_64 ?_
        refine G_iload_n C 2 d_Nf_raise_67 rfl rfl ?_
        refine G_iaload C (by have := h_g2; omega) (sh_formA κ h_g2) hq.1 d_Nf_raise_68 ?_
        replace hq := hq.2
        refine G_i2l C d_Nf_raise_69 ?_
        refine G_lastore C (k := 13) (by decide) (fun _ _ => rfl) hq.1 d_Nf_raise_70 ?_
        replace hq := hq.2 _ rfl
        refine G_goto C (tgt := 90) d_Nf_raise_71 (by decide) ?_
        refine G_iinc C (v := _ + 1) (lv' := [(3, _), (0, _), (2, _)]) 2 d_Nf_raise_90 rfl rfl (by decide) rfl ?_
        refine G_goto C (tgt := 33) d_Nf_raise_93 (by decide) ?_
        exact G_sub [1, 2, 0] (by rfl) (ih _ _ hq)
def q_Nf_raise (a1 : Int32) (M : Mem) (post : Int32 → Mem → Prop) : Prop := q_Nf_formAt a1 M (fun r2 M1 => (r2 = none → post (-2 : Int32) M1) ∧ (∀ i3, r2 = some i3 → i3 < 12 ∧ ((¬ (M1.1 (32 + 2 * i3) 0) = (2 : Int32) → q_Wav_begin M1 (fun M4 => ∃ n9, q_Nf_raise_L33 i3 (fun M10 => post (1 : Int32) M10) post n9 (0 : Int32) M4)) ∧ ((M1.1 (32 + 2 * i3) 0) = (2 : Int32) → post (-3 : Int32) M1))))
set_option maxHeartbeats 4000000 in
theorem s_Nf_raise {l : Launch} {κ : Kp} {a1 : Int32} {M : Mem} {post : Int32 → Mem → Prop} (hq : q_Nf_raise a1 M post) : Ct l κ y_Nf_raise b_Nf_raise 4 (some .int) 2 [.ref (κ.1 + 0), .int a1] M (pI post) := by
  refine Ct_of (by decide) (Nat.le_of_ble_eq_true rfl) (fun γ hγ C R => ?_)
  subst hγ
  unfold q_Nf_raise at hq
  show G γ κ 4 (0, 0) (Gq γ κ (pI post)) 0 [(0, .ref (κ.1 + 0)), (1, .int a1)] [] M
  refine G_aload_n C 0 d_Nf_raise_0 rfl rfl ?_
  refine G_iload_n C 1 d_Nf_raise_1 rfl rfl ?_
  refine G_callV C (s_Nf_formAt hq) v_Nf_formAt i_Nf_formAt z_Nf_formAt wd_257 (by decide) rfl (k := 0) (ci := 6) (by decide) rfl rfl rfl (rest := []) (by rfl) (Nat.le_of_ble_eq_true rfl) d_Nf_raise_2 (kf_ (fun r2 M1 hq => ?_))
  refine G_astore_nq C (lv' := [(2, _), (0, _), (1, _)]) d_Nf_raise_5 rfl (by decide) rfl ?_
  refine G_aload_nq C 0 d_Nf_raise_6 rfl rfl ?_
  refine G_ifnonnullq C (tgt := 13) d_Nf_raise_7 (by decide) (fun i3 c => ?_) (fun c => ?_)
  · have hz := hq.2 i3 c
    clear hq
    subst c
    obtain ⟨h_i3, hq⟩ := hz
    refine G_aload_n C 0 d_Nf_raise_13 rfl rfl ?_
    refine Gg_Frm_degree C h_i3 wd_150 d_Nf_raise_14 ?_
    refine G_iconst C (v := 2) d_Nf_raise_17 (by decide) ?_
    refine G_icmp_ne C (tgt := 24) d_Nf_raise_18 (by decide) (fun c => ?_) (fun c => ?_)
    · replace hq := hq.1 c
      refine G_aload_n C 1 d_Nf_raise_24 rfl rfl ?_
      refine Gg_Nf_motion C wd_166 d_Nf_raise_25 ?_
      refine G_callV C (s_Wav_begin hq) v_Wav_begin i_Wav_begin z_Wav_begin wd_200 (by decide) rfl (k := 12) (ci := 5) (by decide) rfl rfl rfl (rest := []) (by rfl) (Nat.le_of_ble_eq_true rfl) d_Nf_raise_28 (kv_ (fun M4 hq => ?_))
      refine G_iconst C (v := 0) d_Nf_raise_31 (by decide) ?_
      refine G_istore_n C (lv' := [(3, _), (2, _), (0, _), (1, _)]) d_Nf_raise_32 rfl (by decide) rfl ?_
      obtain ⟨n9, hq⟩ := hq
      refine G_sub [2, 1, 0] (by rfl) (s_Nf_raise_L33 C R h_i3 ?_ n9 _ _ hq)
      · intro M10 hq
        refine G_iconst C (v := 1) d_Nf_raise_96 (by decide) ?_
        exact G_iret C R d_Nf_raise_97 ⟨_, rfl, hq⟩
    · replace hq := hq.2 c
      refine G_bipush C (v := -3) d_Nf_raise_21 (by decide) ?_
      exact G_iret C R d_Nf_raise_23 ⟨_, rfl, hq⟩
  · replace hq := hq.1 c
    refine G_bipush C (v := -2) d_Nf_raise_10 (by decide) ?_
    exact G_iret C R d_Nf_raise_12 ⟨_, rfl, hq⟩
theorem d_Nf_height_0 : decode b_Nf_height 0 = .ok (.aload_n 0, 1) := by decide +kernel
theorem d_Nf_height_1 : decode b_Nf_height 1 = .ok (.getfield 10, 3) := by decide +kernel
theorem d_Nf_height_4 : decode b_Nf_height 4 = .ok (.iconst 0, 1) := by decide +kernel
theorem d_Nf_height_5 : decode b_Nf_height 5 = .ok (.iload_n 1, 1) := by decide +kernel
theorem d_Nf_height_6 : decode b_Nf_height 6 = .ok (.invokevirtual 63, 3) := by decide +kernel
theorem d_Nf_height_9 : decode b_Nf_height 9 = .ok (.ifCond .eq 15, 3) := by decide +kernel
theorem d_Nf_height_12 : decode b_Nf_height 12 = .ok (.aload_n 0, 1) := by decide +kernel
theorem d_Nf_height_13 : decode b_Nf_height 13 = .ok (.getfield 32, 3) := by decide +kernel
theorem d_Nf_height_16 : decode b_Nf_height 16 = .ok (.getfield 205, 3) := by decide +kernel
theorem d_Nf_height_19 : decode b_Nf_height 19 = .ok (.iload_n 1, 1) := by decide +kernel
theorem d_Nf_height_20 : decode b_Nf_height 20 = .ok (.laload, 1) := by decide +kernel
theorem d_Nf_height_21 : decode b_Nf_height 21 = .ok (.goto 4, 3) := by decide +kernel
theorem d_Nf_height_24 : decode b_Nf_height 24 = .ok (.lconst 0, 1) := by decide +kernel
theorem d_Nf_height_25 : decode b_Nf_height 25 = .ok (.lreturn, 1) := by decide +kernel
def q_Nf_height (a1 : Int32) (M : Mem) (post : Int64 → Mem → Prop) : Prop := q_Net_has (0 : Int32) a1 M (fun r2 M1 => (r2 = 0 → post (0 : Int64) M1) ∧ (¬ r2 = 0 → vp_in a1 6 ∧ (post (M1.2 13 a1.toNatClampNeg) M1)))
set_option maxHeartbeats 4000000 in
theorem s_Nf_height {l : Launch} {κ : Kp} {a1 : Int32} {M : Mem} {post : Int64 → Mem → Prop} (hq : q_Nf_height a1 M post) : Ct l κ y_Nf_height b_Nf_height 2 (some .long) 2 [.ref (κ.1 + 0), .int a1] M (pJ post) := by
  refine Ct_of (by decide) (Nat.le_of_ble_eq_true rfl) (fun γ hγ C R => ?_)
  subst hγ
  unfold q_Nf_height at hq
  show G γ κ 2 (0, 0) (Gq γ κ (pJ post)) 0 [(0, .ref (κ.1 + 0)), (1, .int a1)] [] M
  refine G_aload_n C 0 d_Nf_height_0 rfl rfl ?_
  refine Gg_Nf_shape C wd_163 d_Nf_height_1 ?_
  refine G_iconst C (v := 0) d_Nf_height_4 (by decide) ?_
  refine G_iload_n C 1 d_Nf_height_5 rfl rfl ?_
  refine G_callV C (s_Net_has hq) v_Net_has i_Net_has z_Net_has wd_211 (by decide) rfl (k := 1) (ci := 3) (by decide) rfl rfl rfl (rest := []) (by rfl) (Nat.le_of_ble_eq_true rfl) d_Nf_height_6 (ki_ (fun r2 M1 hq => ?_))
  refine G_if_eq C (tgt := 24) d_Nf_height_9 (by decide) (fun c => ?_) (fun c => ?_)
  · replace hq := hq.1 c
    refine G_lconst C (v := 0) d_Nf_height_24 (by decide) ?_
    exact G_lret C R d_Nf_height_25 ⟨_, rfl, hq⟩
  · replace hq := hq.2 c
    refine G_aload_n C 0 d_Nf_height_12 rfl rfl ?_
    refine Gg_Nf_motion C wd_166 d_Nf_height_13 ?_
    refine Gg_Wav_levels C wd_94 d_Nf_height_16 ?_
    refine G_iload_n C 1 d_Nf_height_19 rfl rfl ?_
    refine G_laload C (k := 13) (by decide) (fun _ _ => rfl) hq.1 d_Nf_height_20 ?_
    replace hq := hq.2
    refine G_goto C (tgt := 25) d_Nf_height_21 (by decide) ?_
    exact G_lret C R d_Nf_height_25 ⟨_, rfl, hq⟩
theorem d_Nf_flow_0 : decode b_Nf_flow 0 = .ok (.aload_n 0, 1) := by decide +kernel
theorem d_Nf_flow_1 : decode b_Nf_flow 1 = .ok (.getfield 10, 3) := by decide +kernel
theorem d_Nf_flow_4 : decode b_Nf_flow 4 = .ok (.iconst 1, 1) := by decide +kernel
theorem d_Nf_flow_5 : decode b_Nf_flow 5 = .ok (.iload_n 1, 1) := by decide +kernel
theorem d_Nf_flow_6 : decode b_Nf_flow 6 = .ok (.invokevirtual 63, 3) := by decide +kernel
theorem d_Nf_flow_9 : decode b_Nf_flow 9 = .ok (.ifCond .eq 15, 3) := by decide +kernel
theorem d_Nf_flow_12 : decode b_Nf_flow 12 = .ok (.aload_n 0, 1) := by decide +kernel
theorem d_Nf_flow_13 : decode b_Nf_flow 13 = .ok (.getfield 32, 3) := by decide +kernel
theorem d_Nf_flow_16 : decode b_Nf_flow 16 = .ok (.getfield 208, 3) := by decide +kernel
theorem d_Nf_flow_19 : decode b_Nf_flow 19 = .ok (.iload_n 1, 1) := by decide +kernel
theorem d_Nf_flow_20 : decode b_Nf_flow 20 = .ok (.laload, 1) := by decide +kernel
theorem d_Nf_flow_21 : decode b_Nf_flow 21 = .ok (.goto 4, 3) := by decide +kernel
theorem d_Nf_flow_24 : decode b_Nf_flow 24 = .ok (.lconst 0, 1) := by decide +kernel
theorem d_Nf_flow_25 : decode b_Nf_flow 25 = .ok (.lreturn, 1) := by decide +kernel
def q_Nf_flow (a1 : Int32) (M : Mem) (post : Int64 → Mem → Prop) : Prop := q_Net_has (1 : Int32) a1 M (fun r2 M1 => (r2 = 0 → post (0 : Int64) M1) ∧ (¬ r2 = 0 → vp_in a1 12 ∧ (post (M1.2 14 a1.toNatClampNeg) M1)))
set_option maxHeartbeats 4000000 in
theorem s_Nf_flow {l : Launch} {κ : Kp} {a1 : Int32} {M : Mem} {post : Int64 → Mem → Prop} (hq : q_Nf_flow a1 M post) : Ct l κ y_Nf_flow b_Nf_flow 2 (some .long) 2 [.ref (κ.1 + 0), .int a1] M (pJ post) := by
  refine Ct_of (by decide) (Nat.le_of_ble_eq_true rfl) (fun γ hγ C R => ?_)
  subst hγ
  unfold q_Nf_flow at hq
  show G γ κ 2 (0, 0) (Gq γ κ (pJ post)) 0 [(0, .ref (κ.1 + 0)), (1, .int a1)] [] M
  refine G_aload_n C 0 d_Nf_flow_0 rfl rfl ?_
  refine Gg_Nf_shape C wd_163 d_Nf_flow_1 ?_
  refine G_iconst C (v := 1) d_Nf_flow_4 (by decide) ?_
  refine G_iload_n C 1 d_Nf_flow_5 rfl rfl ?_
  refine G_callV C (s_Net_has hq) v_Net_has i_Net_has z_Net_has wd_211 (by decide) rfl (k := 1) (ci := 3) (by decide) rfl rfl rfl (rest := []) (by rfl) (Nat.le_of_ble_eq_true rfl) d_Nf_flow_6 (ki_ (fun r2 M1 hq => ?_))
  refine G_if_eq C (tgt := 24) d_Nf_flow_9 (by decide) (fun c => ?_) (fun c => ?_)
  · replace hq := hq.1 c
    refine G_lconst C (v := 0) d_Nf_flow_24 (by decide) ?_
    exact G_lret C R d_Nf_flow_25 ⟨_, rfl, hq⟩
  · replace hq := hq.2 c
    refine G_aload_n C 0 d_Nf_flow_12 rfl rfl ?_
    refine Gg_Nf_motion C wd_166 d_Nf_flow_13 ?_
    refine Gg_Wav_flows C wd_96 d_Nf_flow_16 ?_
    refine G_iload_n C 1 d_Nf_flow_19 rfl rfl ?_
    refine G_laload C (k := 14) (by decide) (fun _ _ => rfl) hq.1 d_Nf_flow_20 ?_
    replace hq := hq.2
    refine G_goto C (tgt := 25) d_Nf_flow_21 (by decide) ?_
    exact G_lret C R d_Nf_flow_25 ⟨_, rfl, hq⟩
theorem d_Nf_digest_0 : decode b_Nf_digest 0 = .ok (.ldc2_w 214, 3) := by decide +kernel
theorem d_Nf_digest_3 : decode b_Nf_digest 3 = .ok (.lstore_n 1, 1) := by decide +kernel
theorem d_Nf_digest_4 : decode b_Nf_digest 4 = .ok (.iconst 0, 1) := by decide +kernel
theorem d_Nf_digest_5 : decode b_Nf_digest 5 = .ok (.istore_n 3, 1) := by decide +kernel
theorem d_Nf_digest_6 : decode b_Nf_digest 6 = .ok (.iload_n 3, 1) := by decide +kernel
theorem d_Nf_digest_7 : decode b_Nf_digest 7 = .ok (.iconst 4, 1) := by decide +kernel
theorem d_Nf_digest_8 : decode b_Nf_digest 8 = .ok (.if_icmp .gt 22, 3) := by decide +kernel
theorem d_Nf_digest_11 : decode b_Nf_digest 11 = .ok (.ldc2_w 216, 3) := by decide +kernel
theorem d_Nf_digest_14 : decode b_Nf_digest 14 = .ok (.lload_n 1, 1) := by decide +kernel
theorem d_Nf_digest_15 : decode b_Nf_digest 15 = .ok (.lmul, 1) := by decide +kernel
theorem d_Nf_digest_16 : decode b_Nf_digest 16 = .ok (.aload_n 0, 1) := by decide +kernel
theorem d_Nf_digest_17 : decode b_Nf_digest 17 = .ok (.iload_n 3, 1) := by decide +kernel
theorem d_Nf_digest_18 : decode b_Nf_digest 18 = .ok (.invokevirtual 218, 3) := by decide +kernel
theorem d_Nf_digest_21 : decode b_Nf_digest 21 = .ok (.i2l, 1) := by decide +kernel
theorem d_Nf_digest_22 : decode b_Nf_digest 22 = .ok (.ladd, 1) := by decide +kernel
theorem d_Nf_digest_23 : decode b_Nf_digest 23 = .ok (.lstore_n 1, 1) := by decide +kernel
theorem d_Nf_digest_24 : decode b_Nf_digest 24 = .ok (.iinc 3 1, 3) := by decide +kernel
theorem d_Nf_digest_27 : decode b_Nf_digest 27 = .ok (.goto (-21), 3) := by decide +kernel
theorem d_Nf_digest_30 : decode b_Nf_digest 30 = .ok (.aload_n 0, 1) := by decide +kernel
theorem d_Nf_digest_31 : decode b_Nf_digest 31 = .ok (.lload_n 1, 1) := by decide +kernel
theorem d_Nf_digest_32 : decode b_Nf_digest 32 = .ok (.iconst 1, 1) := by decide +kernel
theorem d_Nf_digest_33 : decode b_Nf_digest 33 = .ok (.invokevirtual 221, 3) := by decide +kernel
theorem d_Nf_digest_36 : decode b_Nf_digest 36 = .ok (.lstore_n 1, 1) := by decide +kernel
theorem d_Nf_digest_37 : decode b_Nf_digest 37 = .ok (.aload_n 0, 1) := by decide +kernel
theorem d_Nf_digest_38 : decode b_Nf_digest 38 = .ok (.lload_n 1, 1) := by decide +kernel
theorem d_Nf_digest_39 : decode b_Nf_digest 39 = .ok (.iconst 2, 1) := by decide +kernel
theorem d_Nf_digest_40 : decode b_Nf_digest 40 = .ok (.invokevirtual 221, 3) := by decide +kernel
theorem d_Nf_digest_43 : decode b_Nf_digest 43 = .ok (.lstore_n 1, 1) := by decide +kernel
theorem d_Nf_digest_44 : decode b_Nf_digest 44 = .ok (.aload_n 0, 1) := by decide +kernel
theorem d_Nf_digest_45 : decode b_Nf_digest 45 = .ok (.lload_n 1, 1) := by decide +kernel
theorem d_Nf_digest_46 : decode b_Nf_digest 46 = .ok (.invokevirtual 225, 3) := by decide +kernel
theorem d_Nf_digest_49 : decode b_Nf_digest 49 = .ok (.lstore_n 1, 1) := by decide +kernel
theorem d_Nf_digest_50 : decode b_Nf_digest 50 = .ok (.aload_n 0, 1) := by decide +kernel
theorem d_Nf_digest_51 : decode b_Nf_digest 51 = .ok (.lload_n 1, 1) := by decide +kernel
theorem d_Nf_digest_52 : decode b_Nf_digest 52 = .ok (.invokevirtual 229, 3) := by decide +kernel
theorem d_Nf_digest_55 : decode b_Nf_digest 55 = .ok (.lstore_n 1, 1) := by decide +kernel
theorem d_Nf_digest_56 : decode b_Nf_digest 56 = .ok (.iconst 0, 1) := by decide +kernel
theorem d_Nf_digest_57 : decode b_Nf_digest 57 = .ok (.istore_n 3, 1) := by decide +kernel
theorem d_Nf_digest_58 : decode b_Nf_digest 58 = .ok (.iload_n 3, 1) := by decide +kernel
theorem d_Nf_digest_59 : decode b_Nf_digest 59 = .ok (.aload_n 0, 1) := by decide +kernel
theorem d_Nf_digest_60 : decode b_Nf_digest 60 = .ok (.getfield 10, 3) := by decide +kernel
theorem d_Nf_digest_63 : decode b_Nf_digest 63 = .ok (.getfield 147, 3) := by decide +kernel
theorem d_Nf_digest_66 : decode b_Nf_digest 66 = .ok (.if_icmp .ge 25, 3) := by decide +kernel
theorem d_Nf_digest_69 : decode b_Nf_digest 69 = .ok (.ldc2_w 216, 3) := by decide +kernel
theorem d_Nf_digest_72 : decode b_Nf_digest 72 = .ok (.lload_n 1, 1) := by decide +kernel
theorem d_Nf_digest_73 : decode b_Nf_digest 73 = .ok (.lmul, 1) := by decide +kernel
theorem d_Nf_digest_74 : decode b_Nf_digest 74 = .ok (.aload_n 0, 1) := by decide +kernel
theorem d_Nf_digest_75 : decode b_Nf_digest 75 = .ok (.getfield 32, 3) := by decide +kernel
theorem d_Nf_digest_78 : decode b_Nf_digest 78 = .ok (.getfield 205, 3) := by decide +kernel
theorem d_Nf_digest_81 : decode b_Nf_digest 81 = .ok (.iload_n 3, 1) := by decide +kernel
theorem d_Nf_digest_82 : decode b_Nf_digest 82 = .ok (.laload, 1) := by decide +kernel
theorem d_Nf_digest_83 : decode b_Nf_digest 83 = .ok (.ladd, 1) := by decide +kernel
theorem d_Nf_digest_84 : decode b_Nf_digest 84 = .ok (.lstore_n 1, 1) := by decide +kernel
theorem d_Nf_digest_85 : decode b_Nf_digest 85 = .ok (.iinc 3 1, 3) := by decide +kernel
theorem d_Nf_digest_88 : decode b_Nf_digest 88 = .ok (.goto (-30), 3) := by decide +kernel
theorem d_Nf_digest_91 : decode b_Nf_digest 91 = .ok (.iconst 0, 1) := by decide +kernel
theorem d_Nf_digest_92 : decode b_Nf_digest 92 = .ok (.istore_n 3, 1) := by decide +kernel
theorem d_Nf_digest_93 : decode b_Nf_digest 93 = .ok (.iload_n 3, 1) := by decide +kernel
theorem d_Nf_digest_94 : decode b_Nf_digest 94 = .ok (.aload_n 0, 1) := by decide +kernel
theorem d_Nf_digest_95 : decode b_Nf_digest 95 = .ok (.getfield 10, 3) := by decide +kernel
theorem d_Nf_digest_98 : decode b_Nf_digest 98 = .ok (.getfield 71, 3) := by decide +kernel
theorem d_Nf_digest_101 : decode b_Nf_digest 101 = .ok (.if_icmp .ge 25, 3) := by decide +kernel
theorem d_Nf_digest_104 : decode b_Nf_digest 104 = .ok (.ldc2_w 216, 3) := by decide +kernel
theorem d_Nf_digest_107 : decode b_Nf_digest 107 = .ok (.lload_n 1, 1) := by decide +kernel
theorem d_Nf_digest_108 : decode b_Nf_digest 108 = .ok (.lmul, 1) := by decide +kernel
theorem d_Nf_digest_109 : decode b_Nf_digest 109 = .ok (.aload_n 0, 1) := by decide +kernel
theorem d_Nf_digest_110 : decode b_Nf_digest 110 = .ok (.getfield 32, 3) := by decide +kernel
theorem d_Nf_digest_113 : decode b_Nf_digest 113 = .ok (.getfield 208, 3) := by decide +kernel
theorem d_Nf_digest_116 : decode b_Nf_digest 116 = .ok (.iload_n 3, 1) := by decide +kernel
theorem d_Nf_digest_117 : decode b_Nf_digest 117 = .ok (.laload, 1) := by decide +kernel
theorem d_Nf_digest_118 : decode b_Nf_digest 118 = .ok (.ladd, 1) := by decide +kernel
theorem d_Nf_digest_119 : decode b_Nf_digest 119 = .ok (.lstore_n 1, 1) := by decide +kernel
theorem d_Nf_digest_120 : decode b_Nf_digest 120 = .ok (.iinc 3 1, 3) := by decide +kernel
theorem d_Nf_digest_123 : decode b_Nf_digest 123 = .ok (.goto (-30), 3) := by decide +kernel
theorem d_Nf_digest_126 : decode b_Nf_digest 126 = .ok (.lload_n 1, 1) := by decide +kernel
theorem d_Nf_digest_127 : decode b_Nf_digest 127 = .ok (.lreturn, 1) := by decide +kernel
def q_Nf_digest_L6 (kx30 : Int64 → Mem → Prop) (post : Int64 → Mem → Prop) : Nat → Int64 → Int32 → Mem → Prop
  | 0, _, _, _ => False
  | n + 1, x1, x3, M => ((4 : Int32) < x3 → kx30 x1 M) ∧ (¬ (4 : Int32) < x3 → q_Nf_count x3 M (fun r2 M1 => q_Nf_digest_L6 kx30 post n (((31 : Int64) * x1) + r2.toInt64) (x3 + 1) M1))
set_option maxHeartbeats 4000000 in
theorem s_Nf_digest_L6 {γ : Gm} {κ : Kp} {post : Int64 → Mem → Prop} {kx30 : Int64 → Mem → Prop} (C : Cx γ κ "NetForms" b_Nf_digest 4 2 (0, 0)) (R : Rt γ (some .long)) (hx30 : ∀ y1 M', kx30 y1 M' → G γ κ 4 (0, 0) (Gq γ κ (pJ post)) 30 [(0, .ref (κ.1 + 0)), (1, .long y1)] [] M') : ∀ (n : Nat) (x1 : Int64) (x3 : Int32) (M : Mem), q_Nf_digest_L6 kx30 post n x1 x3 M → G γ κ 4 (0, 0) (Gq γ κ (pJ post)) 6 [(0, .ref (κ.1 + 0)), (1, .long x1), (3, .int x3)] [] M := by
  intro n
  induction n with
  | zero => intro x1 x3 M hq; exact hq.elim
  | succ n ih =>
    intro x1 x3 M hq
    unfold q_Nf_digest_L6 at hq
    refine G_iload_n C 2 d_Nf_digest_6 rfl rfl ?_
    refine G_iconst C (v := 4) d_Nf_digest_7 (by decide) ?_
    refine G_icmp_gt C (tgt := 30) d_Nf_digest_8 (by decide) (fun c => ?_) (fun c => ?_)
    · replace hq := hq.1 c
      exact G_sub [0, 1] (by rfl) (hx30 _ _ hq)
    · replace hq := hq.2 c
      refine G_ldc2 C (v := 31) wd_501 d_Nf_digest_11 ?_
      refine G_lload_n C 1 d_Nf_digest_14 rfl rfl ?_
      refine G_lmul C d_Nf_digest_15 ?_
      refine G_aload_n C 0 d_Nf_digest_16 rfl rfl ?_
      refine G_iload_n C 2 d_Nf_digest_17 rfl rfl ?_
      refine G_callV C (s_Nf_count hq) v_Nf_count i_Nf_count z_Nf_count wd_502 (by decide) rfl (k := 0) (ci := 6) (by decide) rfl rfl rfl (rest := [_]) (by rfl) (Nat.le_of_ble_eq_true rfl) d_Nf_digest_18 (ki_ (fun r2 M1 hq => ?_))
      refine G_i2l C d_Nf_digest_21 ?_
      refine G_ladd C d_Nf_digest_22 ?_
      refine G_lstore_n C (lv' := [(1, _), (0, _), (3, _)]) d_Nf_digest_23 rfl (by decide) rfl ?_
      refine G_iinc C (v := _ + 1) (lv' := [(3, _), (1, _), (0, _)]) 2 d_Nf_digest_24 rfl rfl (by decide) rfl ?_
      refine G_goto C (tgt := 6) d_Nf_digest_27 (by decide) ?_
      exact G_sub [2, 1, 0] (by rfl) (ih _ _ _ hq)
def q_Nf_digest_L58 (kx91 : Int64 → Mem → Prop) (post : Int64 → Mem → Prop) : Nat → Int64 → Int32 → Mem → Prop
  | 0, _, _, _ => False
  | n + 1, x1, x3, M => ((M.1 1 0) ≤ x3 → kx91 x1 M) ∧ (¬ (M.1 1 0) ≤ x3 → vp_in x3 6 ∧ (q_Nf_digest_L58 kx91 post n (((31 : Int64) * x1) + (M.2 13 x3.toNatClampNeg)) (x3 + 1) M))
set_option maxHeartbeats 4000000 in
theorem s_Nf_digest_L58 {γ : Gm} {κ : Kp} {post : Int64 → Mem → Prop} {kx91 : Int64 → Mem → Prop} (C : Cx γ κ "NetForms" b_Nf_digest 4 2 (0, 0)) (R : Rt γ (some .long)) (hx91 : ∀ y1 M', kx91 y1 M' → G γ κ 4 (0, 0) (Gq γ κ (pJ post)) 91 [(0, .ref (κ.1 + 0)), (1, .long y1)] [] M') : ∀ (n : Nat) (x1 : Int64) (x3 : Int32) (M : Mem), q_Nf_digest_L58 kx91 post n x1 x3 M → G γ κ 4 (0, 0) (Gq γ κ (pJ post)) 58 [(0, .ref (κ.1 + 0)), (1, .long x1), (3, .int x3)] [] M := by
  intro n
  induction n with
  | zero => intro x1 x3 M hq; exact hq.elim
  | succ n ih =>
    intro x1 x3 M hq
    unfold q_Nf_digest_L58 at hq
    refine G_iload_n C 2 d_Nf_digest_58 rfl rfl ?_
    refine G_aload_n C 0 d_Nf_digest_59 rfl rfl ?_
    refine Gg_Nf_shape C wd_163 d_Nf_digest_60 ?_
    refine Gg_Net_points C wd_27 d_Nf_digest_63 ?_
    refine G_icmp_ge C (tgt := 91) d_Nf_digest_66 (by decide) (fun c => ?_) (fun c => ?_)
    · replace hq := hq.1 c
      exact G_sub [0, 1] (by rfl) (hx91 _ _ hq)
    · replace hq := hq.2 c
      refine G_ldc2 C (v := 31) wd_501 d_Nf_digest_69 ?_
      refine G_lload_n C 1 d_Nf_digest_72 rfl rfl ?_
      refine G_lmul C d_Nf_digest_73 ?_
      refine G_aload_n C 0 d_Nf_digest_74 rfl rfl ?_
      refine Gg_Nf_motion C wd_166 d_Nf_digest_75 ?_
      refine Gg_Wav_levels C wd_94 d_Nf_digest_78 ?_
      refine G_iload_n C 2 d_Nf_digest_81 rfl rfl ?_
      refine G_laload C (k := 13) (by decide) (fun _ _ => rfl) hq.1 d_Nf_digest_82 ?_
      replace hq := hq.2
      refine G_ladd C d_Nf_digest_83 ?_
      refine G_lstore_n C (lv' := [(1, _), (0, _), (3, _)]) d_Nf_digest_84 rfl (by decide) rfl ?_
      refine G_iinc C (v := _ + 1) (lv' := [(3, _), (1, _), (0, _)]) 2 d_Nf_digest_85 rfl rfl (by decide) rfl ?_
      refine G_goto C (tgt := 58) d_Nf_digest_88 (by decide) ?_
      exact G_sub [2, 1, 0] (by rfl) (ih _ _ _ hq)
def q_Nf_digest_L93 (kx126 : Int64 → Mem → Prop) (post : Int64 → Mem → Prop) : Nat → Int64 → Int32 → Mem → Prop
  | 0, _, _, _ => False
  | n + 1, x1, x3, M => ((M.1 1 1) ≤ x3 → kx126 x1 M) ∧ (¬ (M.1 1 1) ≤ x3 → vp_in x3 12 ∧ (q_Nf_digest_L93 kx126 post n (((31 : Int64) * x1) + (M.2 14 x3.toNatClampNeg)) (x3 + 1) M))
set_option maxHeartbeats 4000000 in
theorem s_Nf_digest_L93 {γ : Gm} {κ : Kp} {post : Int64 → Mem → Prop} {kx126 : Int64 → Mem → Prop} (C : Cx γ κ "NetForms" b_Nf_digest 4 2 (0, 0)) (R : Rt γ (some .long)) (hx126 : ∀ y0 M', kx126 y0 M' → G γ κ 4 (0, 0) (Gq γ κ (pJ post)) 126 [(1, .long y0)] [] M') : ∀ (n : Nat) (x1 : Int64) (x3 : Int32) (M : Mem), q_Nf_digest_L93 kx126 post n x1 x3 M → G γ κ 4 (0, 0) (Gq γ κ (pJ post)) 93 [(0, .ref (κ.1 + 0)), (1, .long x1), (3, .int x3)] [] M := by
  intro n
  induction n with
  | zero => intro x1 x3 M hq; exact hq.elim
  | succ n ih =>
    intro x1 x3 M hq
    unfold q_Nf_digest_L93 at hq
    refine G_iload_n C 2 d_Nf_digest_93 rfl rfl ?_
    refine G_aload_n C 0 d_Nf_digest_94 rfl rfl ?_
    refine Gg_Nf_shape C wd_163 d_Nf_digest_95 ?_
    refine Gg_Net_edges C wd_31 d_Nf_digest_98 ?_
    refine G_icmp_ge C (tgt := 126) d_Nf_digest_101 (by decide) (fun c => ?_) (fun c => ?_)
    · replace hq := hq.1 c
      exact G_sub [1] (by rfl) (hx126 _ _ hq)
    · replace hq := hq.2 c
      refine G_ldc2 C (v := 31) wd_501 d_Nf_digest_104 ?_
      refine G_lload_n C 1 d_Nf_digest_107 rfl rfl ?_
      refine G_lmul C d_Nf_digest_108 ?_
      refine G_aload_n C 0 d_Nf_digest_109 rfl rfl ?_
      refine Gg_Nf_motion C wd_166 d_Nf_digest_110 ?_
      refine Gg_Wav_flows C wd_96 d_Nf_digest_113 ?_
      refine G_iload_n C 2 d_Nf_digest_116 rfl rfl ?_
      refine G_laload C (k := 14) (by decide) (fun _ _ => rfl) hq.1 d_Nf_digest_117 ?_
      replace hq := hq.2
      refine G_ladd C d_Nf_digest_118 ?_
      refine G_lstore_n C (lv' := [(1, _), (0, _), (3, _)]) d_Nf_digest_119 rfl (by decide) rfl ?_
      refine G_iinc C (v := _ + 1) (lv' := [(3, _), (1, _), (0, _)]) 2 d_Nf_digest_120 rfl rfl (by decide) rfl ?_
      refine G_goto C (tgt := 93) d_Nf_digest_123 (by decide) ?_
      exact G_sub [2, 1, 0] (by rfl) (ih _ _ _ hq)
def q_Nf_digest (M : Mem) (post : Int64 → Mem → Prop) : Prop := ∃ n3, q_Nf_digest_L6 (fun x4 M5 => q_Nf_foldCorners x4 (1 : Int32) M5 (fun r7 M6 => q_Nf_foldCorners r7 (2 : Int32) M6 (fun r9 M8 => q_Nf_foldForms r9 M8 (fun r11 M10 => q_Nf_foldWalls r11 M10 (fun r13 M12 => ∃ n14, q_Nf_digest_L58 (fun x15 M16 => ∃ n17, q_Nf_digest_L93 (fun x18 M19 => post x18 M19) post n17 x15 (0 : Int32) M16) post n14 r13 (0 : Int32) M12))))) post n3 (109 : Int64) (0 : Int32) M
set_option maxHeartbeats 4000000 in
theorem s_Nf_digest {l : Launch} {κ : Kp} {M : Mem} {post : Int64 → Mem → Prop} (hq : q_Nf_digest M post) : Ct l κ y_Nf_digest b_Nf_digest 4 (some .long) 2 [.ref (κ.1 + 0)] M (pJ post) := by
  refine Ct_of (by decide) (Nat.le_of_ble_eq_true rfl) (fun γ hγ C R => ?_)
  subst hγ
  unfold q_Nf_digest at hq
  show G γ κ 4 (0, 0) (Gq γ κ (pJ post)) 0 [(0, .ref (κ.1 + 0))] [] M
  refine G_ldc2 C (v := 109) wd_500 d_Nf_digest_0 ?_
  refine G_lstore_n C (lv' := [(1, _), (0, _)]) d_Nf_digest_3 rfl (by decide) rfl ?_
  refine G_iconst C (v := 0) d_Nf_digest_4 (by decide) ?_
  refine G_istore_n C (lv' := [(3, _), (1, _), (0, _)]) d_Nf_digest_5 rfl (by decide) rfl ?_
  obtain ⟨n3, hq⟩ := hq
  refine G_sub [2, 1, 0] (by rfl) (s_Nf_digest_L6 C R ?_ n3 _ _ _ hq)
  · intro x4 M5 hq
    refine G_aload_n C 0 d_Nf_digest_30 rfl rfl ?_
    refine G_lload_n C 1 d_Nf_digest_31 rfl rfl ?_
    refine G_iconst C (v := 1) d_Nf_digest_32 (by decide) ?_
    refine G_callV C (s_Nf_foldCorners hq) v_Nf_foldCorners i_Nf_foldCorners z_Nf_foldCorners wd_503 (by decide) rfl (k := 0) (ci := 6) (by decide) rfl rfl rfl (rest := []) (by rfl) (Nat.le_of_ble_eq_true rfl) d_Nf_digest_33 (kj_ (fun r7 M6 hq => ?_))
    refine G_lstore_n C (lv' := [(1, _), (0, _)]) d_Nf_digest_36 rfl (by decide) rfl ?_
    refine G_aload_n C 1 d_Nf_digest_37 rfl rfl ?_
    refine G_lload_n C 0 d_Nf_digest_38 rfl rfl ?_
    refine G_iconst C (v := 2) d_Nf_digest_39 (by decide) ?_
    refine G_callV C (s_Nf_foldCorners hq) v_Nf_foldCorners i_Nf_foldCorners z_Nf_foldCorners wd_503 (by decide) rfl (k := 0) (ci := 6) (by decide) rfl rfl rfl (rest := []) (by rfl) (Nat.le_of_ble_eq_true rfl) d_Nf_digest_40 (kj_ (fun r9 M8 hq => ?_))
    refine G_lstore_n C (lv' := [(1, _), (0, _)]) d_Nf_digest_43 rfl (by decide) rfl ?_
    refine G_aload_n C 1 d_Nf_digest_44 rfl rfl ?_
    refine G_lload_n C 0 d_Nf_digest_45 rfl rfl ?_
    refine G_callV C (s_Nf_foldForms hq) v_Nf_foldForms i_Nf_foldForms z_Nf_foldForms wd_507 (by decide) rfl (k := 0) (ci := 6) (by decide) rfl rfl rfl (rest := []) (by rfl) (Nat.le_of_ble_eq_true rfl) d_Nf_digest_46 (kj_ (fun r11 M10 hq => ?_))
    refine G_lstore_n C (lv' := [(1, _), (0, _)]) d_Nf_digest_49 rfl (by decide) rfl ?_
    refine G_aload_n C 1 d_Nf_digest_50 rfl rfl ?_
    refine G_lload_n C 0 d_Nf_digest_51 rfl rfl ?_
    refine G_callV C (s_Nf_foldWalls hq) v_Nf_foldWalls i_Nf_foldWalls z_Nf_foldWalls wd_511 (by decide) rfl (k := 0) (ci := 6) (by decide) rfl rfl rfl (rest := []) (by rfl) (Nat.le_of_ble_eq_true rfl) d_Nf_digest_52 (kj_ (fun r13 M12 hq => ?_))
    refine G_lstore_n C (lv' := [(1, _), (0, _)]) d_Nf_digest_55 rfl (by decide) rfl ?_
    refine G_iconst C (v := 0) d_Nf_digest_56 (by decide) ?_
    refine G_istore_n C (lv' := [(3, _), (1, _), (0, _)]) d_Nf_digest_57 rfl (by decide) rfl ?_
    obtain ⟨n14, hq⟩ := hq
    refine G_sub [2, 1, 0] (by rfl) (s_Nf_digest_L58 C R ?_ n14 _ _ _ hq)
    · intro x15 M16 hq
      refine G_iconst C (v := 0) d_Nf_digest_91 (by decide) ?_
      refine G_istore_n C (lv' := [(3, _), (0, _), (1, _)]) d_Nf_digest_92 rfl (by decide) rfl ?_
      obtain ⟨n17, hq⟩ := hq
      refine G_sub [1, 2, 0] (by rfl) (s_Nf_digest_L93 C R ?_ n17 _ _ _ hq)
      · intro x18 M19 hq
        refine G_lload_n C 0 d_Nf_digest_126 rfl rfl ?_
        exact G_lret C R d_Nf_digest_127 ⟨_, rfl, hq⟩
theorem d_Mo_edge_0 : decode b_Mo_edge 0 = .ok (.aload_n 0, 1) := by decide +kernel
theorem d_Mo_edge_1 : decode b_Mo_edge 1 = .ok (.iload_n 1, 1) := by decide +kernel
theorem d_Mo_edge_2 : decode b_Mo_edge 2 = .ok (.invokevirtual 92, 3) := by decide +kernel
theorem d_Mo_edge_5 : decode b_Mo_edge 5 = .ok (.ifCond .eq 16, 3) := by decide +kernel
theorem d_Mo_edge_8 : decode b_Mo_edge 8 = .ok (.aload_n 0, 1) := by decide +kernel
theorem d_Mo_edge_9 : decode b_Mo_edge 9 = .ok (.iload_n 2, 1) := by decide +kernel
theorem d_Mo_edge_10 : decode b_Mo_edge 10 = .ok (.invokevirtual 92, 3) := by decide +kernel
theorem d_Mo_edge_13 : decode b_Mo_edge 13 = .ok (.ifCond .eq 8, 3) := by decide +kernel
theorem d_Mo_edge_16 : decode b_Mo_edge 16 = .ok (.iload_n 2, 1) := by decide +kernel
theorem d_Mo_edge_17 : decode b_Mo_edge 17 = .ok (.iload_n 1, 1) := by decide +kernel
theorem d_Mo_edge_18 : decode b_Mo_edge 18 = .ok (.if_icmp .gt 6, 3) := by decide +kernel
theorem d_Mo_edge_21 : decode b_Mo_edge 21 = .ok (.bipush (-2), 2) := by decide +kernel
theorem d_Mo_edge_23 : decode b_Mo_edge 23 = .ok (.ireturn, 1) := by decide +kernel
theorem d_Mo_edge_24 : decode b_Mo_edge 24 = .ok (.aload_n 0, 1) := by decide +kernel
theorem d_Mo_edge_25 : decode b_Mo_edge 25 = .ok (.iload_n 1, 1) := by decide +kernel
theorem d_Mo_edge_26 : decode b_Mo_edge 26 = .ok (.iload_n 2, 1) := by decide +kernel
theorem d_Mo_edge_27 : decode b_Mo_edge 27 = .ok (.invokevirtual 96, 3) := by decide +kernel
theorem d_Mo_edge_30 : decode b_Mo_edge 30 = .ok (.iconst (-1), 1) := by decide +kernel
theorem d_Mo_edge_31 : decode b_Mo_edge 31 = .ok (.if_icmp .eq 6, 3) := by decide +kernel
theorem d_Mo_edge_34 : decode b_Mo_edge 34 = .ok (.bipush (-3), 2) := by decide +kernel
theorem d_Mo_edge_36 : decode b_Mo_edge 36 = .ok (.ireturn, 1) := by decide +kernel
theorem d_Mo_edge_37 : decode b_Mo_edge 37 = .ok (.aload_n 0, 1) := by decide +kernel
theorem d_Mo_edge_38 : decode b_Mo_edge 38 = .ok (.getfield 79, 3) := by decide +kernel
theorem d_Mo_edge_41 : decode b_Mo_edge 41 = .ok (.bipush 12, 2) := by decide +kernel
theorem d_Mo_edge_43 : decode b_Mo_edge 43 = .ok (.if_icmp .ne 6, 3) := by decide +kernel
theorem d_Mo_edge_46 : decode b_Mo_edge 46 = .ok (.bipush (-4), 2) := by decide +kernel
theorem d_Mo_edge_48 : decode b_Mo_edge 48 = .ok (.ireturn, 1) := by decide +kernel
theorem d_Mo_edge_49 : decode b_Mo_edge 49 = .ok (.aload_n 0, 1) := by decide +kernel
theorem d_Mo_edge_50 : decode b_Mo_edge 50 = .ok (.getfield 13, 3) := by decide +kernel
theorem d_Mo_edge_53 : decode b_Mo_edge 53 = .ok (.aload_n 0, 1) := by decide +kernel
theorem d_Mo_edge_54 : decode b_Mo_edge 54 = .ok (.getfield 79, 3) := by decide +kernel
theorem d_Mo_edge_57 : decode b_Mo_edge 57 = .ok (.iload_n 1, 1) := by decide +kernel
theorem d_Mo_edge_58 : decode b_Mo_edge 58 = .ok (.iastore, 1) := by decide +kernel
theorem d_Mo_edge_59 : decode b_Mo_edge 59 = .ok (.aload_n 0, 1) := by decide +kernel
theorem d_Mo_edge_60 : decode b_Mo_edge 60 = .ok (.getfield 17, 3) := by decide +kernel
theorem d_Mo_edge_63 : decode b_Mo_edge 63 = .ok (.aload_n 0, 1) := by decide +kernel
theorem d_Mo_edge_64 : decode b_Mo_edge 64 = .ok (.getfield 79, 3) := by decide +kernel
theorem d_Mo_edge_67 : decode b_Mo_edge 67 = .ok (.iload_n 2, 1) := by decide +kernel
theorem d_Mo_edge_68 : decode b_Mo_edge 68 = .ok (.iastore, 1) := by decide +kernel
theorem d_Mo_edge_69 : decode b_Mo_edge 69 = .ok (.aload_n 0, 1) := by decide +kernel
theorem d_Mo_edge_70 : decode b_Mo_edge 70 = .ok (.dup, 1) := by decide +kernel
theorem d_Mo_edge_71 : decode b_Mo_edge 71 = .ok (.getfield 79, 3) := by decide +kernel
theorem d_Mo_edge_74 : decode b_Mo_edge 74 = .ok (.iconst 1, 1) := by decide +kernel
theorem d_Mo_edge_75 : decode b_Mo_edge 75 = .ok (.iadd, 1) := by decide +kernel
theorem d_Mo_edge_76 : decode b_Mo_edge 76 = .ok (.putfield 79, 3) := by decide +kernel
theorem d_Mo_edge_79 : decode b_Mo_edge 79 = .ok (.aload_n 0, 1) := by decide +kernel
theorem d_Mo_edge_80 : decode b_Mo_edge 80 = .ok (.getfield 79, 3) := by decide +kernel
theorem d_Mo_edge_83 : decode b_Mo_edge 83 = .ok (.iconst 1, 1) := by decide +kernel
theorem d_Mo_edge_84 : decode b_Mo_edge 84 = .ok (.isub, 1) := by decide +kernel
theorem d_Mo_edge_85 : decode b_Mo_edge 85 = .ok (.ireturn, 1) := by decide +kernel
def q_Mo_edge (a1 : Int32) (a2 : Int32) (M : Mem) (post : Int32 → Mem → Prop) : Prop := q_Mo_isPoint a1 M (fun r2 M1 => (r2 = 0 → post (-2 : Int32) M1) ∧ (¬ r2 = 0 → q_Mo_isPoint a2 M1 (fun r4 M3 => (r4 = 0 → post (-2 : Int32) M3) ∧ (¬ r4 = 0 → (a1 < a2 → q_Mo_edgeOf a1 a2 M3 (fun r6 M5 => (r6 = (-1 : Int32) → (¬ (M5.1 56 1) = (12 : Int32) → vp_in (M5.1 56 1) 12 ∧ (∀ M7, M7 = wI M5 57 (M5.1 56 1).toNatClampNeg a1 → vp_in (M7.1 56 1) 12 ∧ (∀ M8, M8 = wI M7 58 (M7.1 56 1).toNatClampNeg a2 → ∀ M9, M9 = wI M8 56 1 ((M8.1 56 1) + (1 : Int32)) → post ((M9.1 56 1) - (1 : Int32)) M9))) ∧ ((M5.1 56 1) = (12 : Int32) → post (-4 : Int32) M5)) ∧ (¬ r6 = (-1 : Int32) → post (-3 : Int32) M5))) ∧ (¬ a1 < a2 → post (-2 : Int32) M3)))))
set_option maxHeartbeats 4000000 in
theorem s_Mo_edge {l : Launch} {κ : Kp} {a1 : Int32} {a2 : Int32} {M : Mem} {post : Int32 → Mem → Prop} (hq : q_Mo_edge a1 a2 M post) : Ct l κ y_Mo_edge b_Mo_edge 3 (some .int) 2 [.ref (κ.1 + 56), .int a1, .int a2] M (pI post) := by
  refine Ct_of (by decide) (Nat.le_of_ble_eq_true rfl) (fun γ hγ C R => ?_)
  subst hγ
  unfold q_Mo_edge at hq
  show G γ κ 3 (0, 0) (Gq γ κ (pI post)) 0 [(0, .ref (κ.1 + 56)), (1, .int a1), (2, .int a2)] [] M
  refine G_aload_n C 0 d_Mo_edge_0 rfl rfl ?_
  refine G_iload_n C 1 d_Mo_edge_1 rfl rfl ?_
  refine G_callV C (s_Mo_isPoint hq) v_Mo_isPoint i_Mo_isPoint z_Mo_isPoint wd_616 (by decide) rfl (k := 56) (ci := 7) (by decide) rfl rfl rfl (rest := []) (by rfl) (Nat.le_of_ble_eq_true rfl) d_Mo_edge_2 (ki_ (fun r2 M1 hq => ?_))
  refine G_if_eq C (tgt := 21) d_Mo_edge_5 (by decide) (fun c => ?_) (fun c => ?_)
  · replace hq := hq.1 c
    refine G_bipush C (v := -2) d_Mo_edge_21 (by decide) ?_
    exact G_iret C R d_Mo_edge_23 ⟨_, rfl, hq⟩
  · replace hq := hq.2 c
    refine G_aload_n C 0 d_Mo_edge_8 rfl rfl ?_
    refine G_iload_n C 2 d_Mo_edge_9 rfl rfl ?_
    refine G_callV C (s_Mo_isPoint hq) v_Mo_isPoint i_Mo_isPoint z_Mo_isPoint wd_616 (by decide) rfl (k := 56) (ci := 7) (by decide) rfl rfl rfl (rest := []) (by rfl) (Nat.le_of_ble_eq_true rfl) d_Mo_edge_10 (ki_ (fun r4 M3 hq => ?_))
    refine G_if_eq C (tgt := 21) d_Mo_edge_13 (by decide) (fun c => ?_) (fun c => ?_)
    · replace hq := hq.1 c
      refine G_bipush C (v := -2) d_Mo_edge_21 (by decide) ?_
      exact G_iret C R d_Mo_edge_23 ⟨_, rfl, hq⟩
    · replace hq := hq.2 c
      refine G_iload_n C 2 d_Mo_edge_16 rfl rfl ?_
      refine G_iload_n C 1 d_Mo_edge_17 rfl rfl ?_
      refine G_icmp_gt C (tgt := 24) d_Mo_edge_18 (by decide) (fun c => ?_) (fun c => ?_)
      · replace hq := hq.1 c
        refine G_aload_n C 0 d_Mo_edge_24 rfl rfl ?_
        refine G_iload_n C 1 d_Mo_edge_25 rfl rfl ?_
        refine G_iload_n C 2 d_Mo_edge_26 rfl rfl ?_
        refine G_callV C (s_Mo_edgeOf hq) v_Mo_edgeOf i_Mo_edgeOf z_Mo_edgeOf wd_620 (by decide) rfl (k := 56) (ci := 7) (by decide) rfl rfl rfl (rest := []) (by rfl) (Nat.le_of_ble_eq_true rfl) d_Mo_edge_27 (ki_ (fun r6 M5 hq => ?_))
        refine G_iconst C (v := -1) d_Mo_edge_30 (by decide) ?_
        refine G_icmp_eq C (tgt := 37) d_Mo_edge_31 (by decide) (fun c => ?_) (fun c => ?_)
        · replace hq := hq.1 c
          refine G_aload_n C 0 d_Mo_edge_37 rfl rfl ?_
          refine Gg_Mo_edges C wd_522 d_Mo_edge_38 ?_
          refine G_bipush C (v := 12) d_Mo_edge_41 (by decide) ?_
          refine G_icmp_ne C (tgt := 49) d_Mo_edge_43 (by decide) (fun c => ?_) (fun c => ?_)
          · replace hq := hq.1 c
            refine G_aload_n C 0 d_Mo_edge_49 rfl rfl ?_
            refine Gg_Mo_begin C wd_524 d_Mo_edge_50 ?_
            refine G_aload_n C 0 d_Mo_edge_53 rfl rfl ?_
            refine Gg_Mo_edges C wd_522 d_Mo_edge_54 ?_
            refine G_iload_n C 1 d_Mo_edge_57 rfl rfl ?_
            refine G_iastore C (k := 57) (by decide) (fun _ _ => rfl) hq.1 d_Mo_edge_58 ?_
            replace hq := hq.2 _ rfl
            refine G_aload_n C 0 d_Mo_edge_59 rfl rfl ?_
            refine Gg_Mo_end C wd_525 d_Mo_edge_60 ?_
            refine G_aload_n C 0 d_Mo_edge_63 rfl rfl ?_
            refine Gg_Mo_edges C wd_522 d_Mo_edge_64 ?_
            refine G_iload_n C 2 d_Mo_edge_67 rfl rfl ?_
            refine G_iastore C (k := 58) (by decide) (fun _ _ => rfl) hq.1 d_Mo_edge_68 ?_
            replace hq := hq.2 _ rfl
            refine G_aload_n C 0 d_Mo_edge_69 rfl rfl ?_
            refine G_dup C d_Mo_edge_70 rfl ?_
            refine Gg_Mo_edges C wd_522 d_Mo_edge_71 ?_
            refine G_iconst C (v := 1) d_Mo_edge_74 (by decide) ?_
            refine G_iadd C d_Mo_edge_75 ?_
            refine Gp_Mo_edges C wd_522 d_Mo_edge_76 ?_
            replace hq := hq _ rfl
            refine G_aload_n C 0 d_Mo_edge_79 rfl rfl ?_
            refine Gg_Mo_edges C wd_522 d_Mo_edge_80 ?_
            refine G_iconst C (v := 1) d_Mo_edge_83 (by decide) ?_
            refine G_isub C d_Mo_edge_84 ?_
            exact G_iret C R d_Mo_edge_85 ⟨_, rfl, hq⟩
          · replace hq := hq.2 c
            refine G_bipush C (v := -4) d_Mo_edge_46 (by decide) ?_
            exact G_iret C R d_Mo_edge_48 ⟨_, rfl, hq⟩
        · replace hq := hq.2 c
          refine G_bipush C (v := -3) d_Mo_edge_34 (by decide) ?_
          exact G_iret C R d_Mo_edge_36 ⟨_, rfl, hq⟩
      · replace hq := hq.2 c
        refine G_bipush C (v := -2) d_Mo_edge_21 (by decide) ?_
        exact G_iret C R d_Mo_edge_23 ⟨_, rfl, hq⟩
