theorem d_Mo_fieldAt_0 : decode b_Mo_fieldAt 0 = .ok (.aload_n 0, 1) := by decide +kernel
theorem d_Mo_fieldAt_1 : decode b_Mo_fieldAt 1 = .ok (.iload_n 1, 1) := by decide +kernel
theorem d_Mo_fieldAt_2 : decode b_Mo_fieldAt 2 = .ok (.invokevirtual 92, 3) := by decide +kernel
theorem d_Mo_fieldAt_5 : decode b_Mo_fieldAt 5 = .ok (.ifCond .eq 21, 3) := by decide +kernel
theorem d_Mo_fieldAt_8 : decode b_Mo_fieldAt 8 = .ok (.iload_n 2, 1) := by decide +kernel
theorem d_Mo_fieldAt_9 : decode b_Mo_fieldAt 9 = .ok (.i2l, 1) := by decide +kernel
theorem d_Mo_fieldAt_10 : decode b_Mo_fieldAt 10 = .ok (.lconst 0, 1) := by decide +kernel
theorem d_Mo_fieldAt_11 : decode b_Mo_fieldAt 11 = .ok (.lconst 1, 1) := by decide +kernel
theorem d_Mo_fieldAt_12 : decode b_Mo_fieldAt 12 = .ok (.invokestatic 75, 3) := by decide +kernel
theorem d_Mo_fieldAt_15 : decode b_Mo_fieldAt 15 = .ok (.ifCond .eq 11, 3) := by decide +kernel
theorem d_Mo_fieldAt_18 : decode b_Mo_fieldAt 18 = .ok (.aload_n 0, 1) := by decide +kernel
theorem d_Mo_fieldAt_19 : decode b_Mo_fieldAt 19 = .ok (.invokevirtual 206, 3) := by decide +kernel
theorem d_Mo_fieldAt_22 : decode b_Mo_fieldAt 22 = .ok (.iconst (-1), 1) := by decide +kernel
theorem d_Mo_fieldAt_23 : decode b_Mo_fieldAt 23 = .ok (.if_icmp .eq 5, 3) := by decide +kernel
theorem d_Mo_fieldAt_26 : decode b_Mo_fieldAt 26 = .ok (.lconst 0, 1) := by decide +kernel
theorem d_Mo_fieldAt_27 : decode b_Mo_fieldAt 27 = .ok (.lreturn, 1) := by decide +kernel
theorem d_Mo_fieldAt_28 : decode b_Mo_fieldAt 28 = .ok (.aload_n 0, 1) := by decide +kernel
theorem d_Mo_fieldAt_29 : decode b_Mo_fieldAt 29 = .ok (.invokevirtual 166, 3) := by decide +kernel
theorem d_Mo_fieldAt_32 : decode b_Mo_fieldAt 32 = .ok (.iconst 0, 1) := by decide +kernel
theorem d_Mo_fieldAt_33 : decode b_Mo_fieldAt 33 = .ok (.istore_n 3, 1) := by decide +kernel
theorem d_Mo_fieldAt_34 : decode b_Mo_fieldAt 34 = .ok (.iload_n 3, 1) := by decide +kernel
theorem d_Mo_fieldAt_35 : decode b_Mo_fieldAt 35 = .ok (.aload_n 0, 1) := by decide +kernel
theorem d_Mo_fieldAt_36 : decode b_Mo_fieldAt 36 = .ok (.getfield 7, 3) := by decide +kernel
theorem d_Mo_fieldAt_39 : decode b_Mo_fieldAt 39 = .ok (.if_icmp .ge 51, 3) := by decide +kernel
theorem d_Mo_fieldAt_42 : decode b_Mo_fieldAt 42 = .ok (.aload_n 0, 1) := by decide +kernel
theorem d_Mo_fieldAt_43 : decode b_Mo_fieldAt 43 = .ok (.getfield 35, 3) := by decide +kernel
theorem d_Mo_fieldAt_46 : decode b_Mo_fieldAt 46 = .ok (.iload_n 3, 1) := by decide +kernel
theorem d_Mo_fieldAt_47 : decode b_Mo_fieldAt 47 = .ok (.baload, 1) := by decide +kernel
theorem d_Mo_fieldAt_48 : decode b_Mo_fieldAt 48 = .ok (.ifCond .eq 36, 3) := by decide +kernel
theorem d_Mo_fieldAt_51 : decode b_Mo_fieldAt 51 = .ok (.aload_n 0, 1) := by decide +kernel
theorem d_Mo_fieldAt_52 : decode b_Mo_fieldAt 52 = .ok (.getfield 52, 3) := by decide +kernel
theorem d_Mo_fieldAt_55 : decode b_Mo_fieldAt 55 = .ok (.bipush 13, 2) := by decide +kernel
theorem d_Mo_fieldAt_57 : decode b_Mo_fieldAt 57 = .ok (.iload_n 3, 1) := by decide +kernel
theorem d_Mo_fieldAt_58 : decode b_Mo_fieldAt 58 = .ok (.imul, 1) := by decide +kernel
theorem d_Mo_fieldAt_59 : decode b_Mo_fieldAt 59 = .ok (.iload_n 3, 1) := by decide +kernel
theorem d_Mo_fieldAt_60 : decode b_Mo_fieldAt 60 = .ok (.iadd, 1) := by decide +kernel
theorem d_Mo_fieldAt_61 : decode b_Mo_fieldAt 61 = .ok (.lconst 1, 1) := by decide +kernel
theorem d_Mo_fieldAt_62 : decode b_Mo_fieldAt 62 = .ok (.lastore, 1) := by decide +kernel
theorem d_Mo_fieldAt_63 : decode b_Mo_fieldAt 63 = .ok (.aload_n 0, 1) := by decide +kernel
theorem d_Mo_fieldAt_64 : decode b_Mo_fieldAt 64 = .ok (.getfield 52, 3) := by decide +kernel
theorem d_Mo_fieldAt_67 : decode b_Mo_fieldAt 67 = .ok (.bipush 13, 2) := by decide +kernel
theorem d_Mo_fieldAt_69 : decode b_Mo_fieldAt 69 = .ok (.iload_n 3, 1) := by decide +kernel
theorem d_Mo_fieldAt_70 : decode b_Mo_fieldAt 70 = .ok (.imul, 1) := by decide +kernel
theorem d_Mo_fieldAt_71 : decode b_Mo_fieldAt 71 = .ok (.aload_n 0, 1) := by decide +kernel
theorem d_Mo_fieldAt_72 : decode b_Mo_fieldAt 72 = .ok (.getfield 7, 3) := by decide +kernel
theorem d_Mo_fieldAt_75 : decode b_Mo_fieldAt 75 = .ok (.iadd, 1) := by decide +kernel
theorem d_Mo_fieldAt_76 : decode b_Mo_fieldAt 76 = .ok (.aload_n 0, 1) := by decide +kernel
theorem d_Mo_fieldAt_77 : decode b_Mo_fieldAt 77 = .ok (.getfield 39, 3) := by decide +kernel
theorem d_Mo_fieldAt_80 : decode b_Mo_fieldAt 80 = .ok (.iload_n 3, 1) := by decide +kernel
theorem d_Mo_fieldAt_81 : decode b_Mo_fieldAt 81 = .ok (.iaload, 1) := by decide +kernel
theorem d_Mo_fieldAt_82 : decode b_Mo_fieldAt 82 = .ok (.i2l, 1) := by decide +kernel
theorem d_Mo_fieldAt_83 : decode b_Mo_fieldAt 83 = .ok (.lastore, 1) := by decide +kernel
theorem d_Mo_fieldAt_84 : decode b_Mo_fieldAt 84 = .ok (.iinc 3 1, 3) := by decide +kernel
theorem d_Mo_fieldAt_87 : decode b_Mo_fieldAt 87 = .ok (.goto (-53), 3) := by decide +kernel
theorem d_Mo_fieldAt_90 : decode b_Mo_fieldAt 90 = .ok (.iconst 0, 1) := by decide +kernel
theorem d_Mo_fieldAt_91 : decode b_Mo_fieldAt 91 = .ok (.istore_n 3, 1) := by decide +kernel
theorem d_Mo_fieldAt_92 : decode b_Mo_fieldAt 92 = .ok (.iload_n 3, 1) := by decide +kernel
theorem d_Mo_fieldAt_93 : decode b_Mo_fieldAt 93 = .ok (.aload_n 0, 1) := by decide +kernel
theorem d_Mo_fieldAt_94 : decode b_Mo_fieldAt 94 = .ok (.getfield 79, 3) := by decide +kernel
theorem d_Mo_fieldAt_97 : decode b_Mo_fieldAt 97 = .ok (.if_icmp .ge 108, 3) := by decide +kernel
theorem d_Mo_fieldAt_100 : decode b_Mo_fieldAt 100 = .ok (.iconst 0, 1) := by decide +kernel
theorem d_Mo_fieldAt_101 : decode b_Mo_fieldAt 101 = .ok (.istore 4, 2) := by decide +kernel
theorem d_Mo_fieldAt_103 : decode b_Mo_fieldAt 103 = .ok (.iload 4, 2) := by decide +kernel
theorem d_Mo_fieldAt_105 : decode b_Mo_fieldAt 105 = .ok (.iconst 2, 1) := by decide +kernel
theorem d_Mo_fieldAt_106 : decode b_Mo_fieldAt 106 = .ok (.if_icmp .ge 93, 3) := by decide +kernel
theorem d_Mo_fieldAt_109 : decode b_Mo_fieldAt 109 = .ok (.iload 4, 2) := by decide +kernel
theorem d_Mo_fieldAt_111 : decode b_Mo_fieldAt 111 = .ok (.ifCond .ne 12, 3) := by decide +kernel
theorem d_Mo_fieldAt_114 : decode b_Mo_fieldAt 114 = .ok (.aload_n 0, 1) := by decide +kernel
theorem d_Mo_fieldAt_115 : decode b_Mo_fieldAt 115 = .ok (.getfield 13, 3) := by decide +kernel
theorem d_Mo_fieldAt_118 : decode b_Mo_fieldAt 118 = .ok (.iload_n 3, 1) := by decide +kernel
theorem d_Mo_fieldAt_119 : decode b_Mo_fieldAt 119 = .ok (.iaload, 1) := by decide +kernel
theorem d_Mo_fieldAt_120 : decode b_Mo_fieldAt 120 = .ok (.goto 9, 3) := by decide +kernel
theorem d_Mo_fieldAt_123 : decode b_Mo_fieldAt 123 = .ok (.aload_n 0, 1) := by decide +kernel
theorem d_Mo_fieldAt_124 : decode b_Mo_fieldAt 124 = .ok (.getfield 17, 3) := by decide +kernel
theorem d_Mo_fieldAt_127 : decode b_Mo_fieldAt 127 = .ok (.iload_n 3, 1) := by decide +kernel
theorem d_Mo_fieldAt_128 : decode b_Mo_fieldAt 128 = .ok (.iaload, 1) := by decide +kernel
theorem d_Mo_fieldAt_129 : decode b_Mo_fieldAt 129 = .ok (.istore 5, 2) := by decide +kernel
theorem d_Mo_fieldAt_131 : decode b_Mo_fieldAt 131 = .ok (.aload_n 0, 1) := by decide +kernel
theorem d_Mo_fieldAt_132 : decode b_Mo_fieldAt 132 = .ok (.getfield 13, 3) := by decide +kernel
theorem d_Mo_fieldAt_135 : decode b_Mo_fieldAt 135 = .ok (.iload_n 3, 1) := by decide +kernel
theorem d_Mo_fieldAt_136 : decode b_Mo_fieldAt 136 = .ok (.iaload, 1) := by decide +kernel
theorem d_Mo_fieldAt_137 : decode b_Mo_fieldAt 137 = .ok (.aload_n 0, 1) := by decide +kernel
theorem d_Mo_fieldAt_138 : decode b_Mo_fieldAt 138 = .ok (.getfield 17, 3) := by decide +kernel
theorem d_Mo_fieldAt_141 : decode b_Mo_fieldAt 141 = .ok (.iload_n 3, 1) := by decide +kernel
theorem d_Mo_fieldAt_142 : decode b_Mo_fieldAt 142 = .ok (.iaload, 1) := by decide +kernel
theorem d_Mo_fieldAt_143 : decode b_Mo_fieldAt 143 = .ok (.iadd, 1) := by decide +kernel
theorem d_Mo_fieldAt_144 : decode b_Mo_fieldAt 144 = .ok (.iload 5, 2) := by decide +kernel
theorem d_Mo_fieldAt_146 : decode b_Mo_fieldAt 146 = .ok (.isub, 1) := by decide +kernel
theorem d_Mo_fieldAt_147 : decode b_Mo_fieldAt 147 = .ok (.istore 6, 2) := by decide +kernel
theorem d_Mo_fieldAt_149 : decode b_Mo_fieldAt 149 = .ok (.aload_n 0, 1) := by decide +kernel
theorem d_Mo_fieldAt_150 : decode b_Mo_fieldAt 150 = .ok (.getfield 35, 3) := by decide +kernel
theorem d_Mo_fieldAt_153 : decode b_Mo_fieldAt 153 = .ok (.iload 5, 2) := by decide +kernel
theorem d_Mo_fieldAt_155 : decode b_Mo_fieldAt 155 = .ok (.baload, 1) := by decide +kernel
theorem d_Mo_fieldAt_156 : decode b_Mo_fieldAt 156 = .ok (.ifCond .ne 37, 3) := by decide +kernel
theorem d_Mo_fieldAt_159 : decode b_Mo_fieldAt 159 = .ok (.aload_n 0, 1) := by decide +kernel
theorem d_Mo_fieldAt_160 : decode b_Mo_fieldAt 160 = .ok (.getfield 52, 3) := by decide +kernel
theorem d_Mo_fieldAt_163 : decode b_Mo_fieldAt 163 = .ok (.bipush 13, 2) := by decide +kernel
theorem d_Mo_fieldAt_165 : decode b_Mo_fieldAt 165 = .ok (.iload 5, 2) := by decide +kernel
theorem d_Mo_fieldAt_167 : decode b_Mo_fieldAt 167 = .ok (.imul, 1) := by decide +kernel
theorem d_Mo_fieldAt_168 : decode b_Mo_fieldAt 168 = .ok (.iload 5, 2) := by decide +kernel
theorem d_Mo_fieldAt_170 : decode b_Mo_fieldAt 170 = .ok (.iadd, 1) := by decide +kernel
theorem d_Mo_fieldAt_171 : decode b_Mo_fieldAt 171 = .ok (.dup2, 1) := by decide +kernel
theorem d_Mo_fieldAt_172 : decode b_Mo_fieldAt 172 = .ok (.laload, 1) := by decide +kernel
theorem d_Mo_fieldAt_173 : decode b_Mo_fieldAt 173 = .ok (.lconst 1, 1) := by decide +kernel
theorem d_Mo_fieldAt_174 : decode b_Mo_fieldAt 174 = .ok (.ladd, 1) := by decide +kernel
theorem d_Mo_fieldAt_175 : decode b_Mo_fieldAt 175 = .ok (.lastore, 1) := by decide +kernel
theorem d_Mo_fieldAt_176 : decode b_Mo_fieldAt 176 = .ok (.aload_n 0, 1) := by decide +kernel
theorem d_Mo_fieldAt_177 : decode b_Mo_fieldAt 177 = .ok (.getfield 52, 3) := by decide +kernel
theorem d_Mo_fieldAt_180 : decode b_Mo_fieldAt 180 = .ok (.bipush 13, 2) := by decide +kernel
theorem d_Mo_fieldAt_182 : decode b_Mo_fieldAt 182 = .ok (.iload 5, 2) := by decide +kernel
theorem d_Mo_fieldAt_184 : decode b_Mo_fieldAt 184 = .ok (.imul, 1) := by decide +kernel
theorem d_Mo_fieldAt_185 : decode b_Mo_fieldAt 185 = .ok (.iload 6, 2) := by decide +kernel
theorem d_Mo_fieldAt_187 : decode b_Mo_fieldAt 187 = .ok (.iadd, 1) := by decide +kernel
theorem d_Mo_fieldAt_188 : decode b_Mo_fieldAt 188 = .ok (.dup2, 1) := by decide +kernel
theorem d_Mo_fieldAt_189 : decode b_Mo_fieldAt 189 = .ok (.laload, 1) := by decide +kernel
theorem d_Mo_fieldAt_190 : decode b_Mo_fieldAt 190 = .ok (.lconst 1, 1) := by decide +kernel
theorem d_Mo_fieldAt_191 : decode b_Mo_fieldAt 191 = .ok (.lsub, 1) := by decide +kernel
theorem d_Mo_fieldAt_192 : decode b_Mo_fieldAt 192 = .ok (.lastore, 1) := by decide +kernel
theorem d_Mo_fieldAt_193 : decode b_Mo_fieldAt 193 = .ok (.iinc 4 1, 3) := by decide +kernel
theorem d_Mo_fieldAt_196 : decode b_Mo_fieldAt 196 = .ok (.goto (-93), 3) := by decide +kernel
theorem d_Mo_fieldAt_199 : decode b_Mo_fieldAt 199 = .ok (.iinc 3 1, 3) := by decide +kernel
theorem d_Mo_fieldAt_202 : decode b_Mo_fieldAt 202 = .ok (.goto (-110), 3) := by decide +kernel
theorem d_Mo_fieldAt_205 : decode b_Mo_fieldAt 205 = .ok (.aload_n 0, 1) := by decide +kernel
theorem d_Mo_fieldAt_206 : decode b_Mo_fieldAt 206 = .ok (.aload_n 0, 1) := by decide +kernel
theorem d_Mo_fieldAt_207 : decode b_Mo_fieldAt 207 = .ok (.getfield 7, 3) := by decide +kernel
theorem d_Mo_fieldAt_210 : decode b_Mo_fieldAt 210 = .ok (.invokevirtual 180, 3) := by decide +kernel
theorem d_Mo_fieldAt_213 : decode b_Mo_fieldAt 213 = .ok (.aload_n 0, 1) := by decide +kernel
theorem d_Mo_fieldAt_214 : decode b_Mo_fieldAt 214 = .ok (.getfield 58, 3) := by decide +kernel
theorem d_Mo_fieldAt_217 : decode b_Mo_fieldAt 217 = .ok (.iload_n 1, 1) := by decide +kernel
theorem d_Mo_fieldAt_218 : decode b_Mo_fieldAt 218 = .ok (.laload, 1) := by decide +kernel
theorem d_Mo_fieldAt_219 : decode b_Mo_fieldAt 219 = .ok (.aload_n 0, 1) := by decide +kernel
theorem d_Mo_fieldAt_220 : decode b_Mo_fieldAt 220 = .ok (.getfield 150, 3) := by decide +kernel
theorem d_Mo_fieldAt_223 : decode b_Mo_fieldAt 223 = .ok (.iload_n 2, 1) := by decide +kernel
theorem d_Mo_fieldAt_224 : decode b_Mo_fieldAt 224 = .ok (.invokestatic 201, 3) := by decide +kernel
theorem d_Mo_fieldAt_227 : decode b_Mo_fieldAt 227 = .ok (.lreturn, 1) := by decide +kernel
def q_Mo_fieldAt_L34 (kx90 : Int32 → Int32 → Mem → Prop) (post : Int64 → Mem → Prop) : Nat → Int32 → Int32 → Int32 → Mem → Prop
  | 0, _, _, _, _ => False
  | n + 1, x1, x2, x3, M => ((M.1 56 0) ≤ x3 → kx90 x1 x2 M) ∧ (¬ (M.1 56 0) ≤ x3 → vp_in x3 6 ∧ (((M.1 64 x3.toNatClampNeg) = 0 → q_Mo_fieldAt_L34 kx90 post n x1 x2 (x3 + 1) M) ∧ (¬ (M.1 64 x3.toNatClampNeg) = 0 → vp_in (((13 : Int32) * x3) + x3) 156 ∧ (∀ M8, M8 = wJ M 69 (((13 : Int32) * x3) + x3).toNatClampNeg (1 : Int64) → vp_in x3 6 ∧ (vp_in (((13 : Int32) * x3) + (M8.1 56 0)) 156 ∧ (∀ M9, M9 = wJ M8 69 (((13 : Int32) * x3) + (M8.1 56 0)).toNatClampNeg ((M8.1 65 x3.toNatClampNeg).toInt64) → q_Mo_fieldAt_L34 kx90 post n x1 x2 (x3 + 1) M9))))))
set_option maxHeartbeats 4000000 in
theorem s_Mo_fieldAt_L34 {γ : Gm} {κ : Kp} {post : Int64 → Mem → Prop} {kx90 : Int32 → Int32 → Mem → Prop} (C : Cx γ κ "NetFormsModel" b_Mo_fieldAt 7 3 (0, 0)) (R : Rt γ (some .long)) (hx90 : ∀ y1 y2 M', kx90 y1 y2 M' → G γ κ 7 (0, 0) (Gq γ κ (pJ post)) 90 [(0, .ref (κ.1 + 56)), (1, .int y1), (2, .int y2)] [] M') : ∀ (n : Nat) (x1 : Int32) (x2 : Int32) (x3 : Int32) (M : Mem), q_Mo_fieldAt_L34 kx90 post n x1 x2 x3 M → G γ κ 7 (0, 0) (Gq γ κ (pJ post)) 34 [(0, .ref (κ.1 + 56)), (1, .int x1), (2, .int x2), (3, .int x3)] [] M := by
  intro n
  induction n with
  | zero => intro x1 x2 x3 M hq; exact hq.elim
  | succ n ih =>
    intro x1 x2 x3 M hq
    unfold q_Mo_fieldAt_L34 at hq
    refine G_iload_n C 3 d_Mo_fieldAt_34 rfl rfl ?_
    refine G_aload_n C 0 d_Mo_fieldAt_35 rfl rfl ?_
    refine Gg_Mo_points C wd_521 d_Mo_fieldAt_36 ?_
    refine G_icmp_ge C (tgt := 90) d_Mo_fieldAt_39 (by decide) (fun c => ?_) (fun c => ?_)
    · replace hq := hq.1 c
      exact G_sub [0, 1, 2] (by rfl) (hx90 _ _ _ hq)
    · replace hq := hq.2 c
      refine G_aload_n C 0 d_Mo_fieldAt_42 rfl rfl ?_
      refine Gg_Mo_isWall C wd_531 d_Mo_fieldAt_43 ?_
      refine G_iload_n C 3 d_Mo_fieldAt_46 rfl rfl ?_
      refine G_baload C (k := 64) (by decide) (fun _ _ => rfl) hq.1 d_Mo_fieldAt_47 ?_
      replace hq := hq.2
      refine G_if_eq C (tgt := 84) d_Mo_fieldAt_48 (by decide) (fun c => ?_) (fun c => ?_)
      · replace hq := hq.1 c
        refine G_iinc C (v := _ + 1) (lv' := [(3, _), (0, _), (1, _), (2, _)]) 3 d_Mo_fieldAt_84 rfl rfl (by decide) rfl ?_
        refine G_goto C (tgt := 34) d_Mo_fieldAt_87 (by decide) ?_
        exact G_sub [1, 2, 3, 0] (by rfl) (ih _ _ _ _ hq)
      · replace hq := hq.2 c
        refine G_aload_n C 0 d_Mo_fieldAt_51 rfl rfl ?_
        refine Gg_Mo_table C wd_537 d_Mo_fieldAt_52 ?_
        refine G_bipush C (v := 13) d_Mo_fieldAt_55 (by decide) ?_
        refine G_iload_n C 3 d_Mo_fieldAt_57 rfl rfl ?_
        refine G_imul C d_Mo_fieldAt_58 ?_
        refine G_iload_n C 3 d_Mo_fieldAt_59 rfl rfl ?_
        refine G_iadd C d_Mo_fieldAt_60 ?_
        refine G_lconst C (v := 1) d_Mo_fieldAt_61 (by decide) ?_
        refine G_lastore C (k := 69) (by decide) (fun _ _ => rfl) hq.1 d_Mo_fieldAt_62 ?_
        replace hq := hq.2 _ rfl
        refine G_aload_n C 0 d_Mo_fieldAt_63 rfl rfl ?_
        refine Gg_Mo_table C wd_537 d_Mo_fieldAt_64 ?_
        refine G_bipush C (v := 13) d_Mo_fieldAt_67 (by decide) ?_
        refine G_iload_n C 3 d_Mo_fieldAt_69 rfl rfl ?_
        refine G_imul C d_Mo_fieldAt_70 ?_
        refine G_aload_n C 0 d_Mo_fieldAt_71 rfl rfl ?_
        refine Gg_Mo_points C wd_521 d_Mo_fieldAt_72 ?_
        refine G_iadd C d_Mo_fieldAt_75 ?_
        refine G_aload_n C 0 d_Mo_fieldAt_76 rfl rfl ?_
        refine Gg_Mo_wall C wd_532 d_Mo_fieldAt_77 ?_
        refine G_iload_n C 3 d_Mo_fieldAt_80 rfl rfl ?_
        refine G_iaload C (k := 65) (by decide) (fun _ _ => rfl) hq.1 d_Mo_fieldAt_81 ?_
        replace hq := hq.2
        refine G_i2l C d_Mo_fieldAt_82 ?_
        refine G_lastore C (k := 69) (by decide) (fun _ _ => rfl) hq.1 d_Mo_fieldAt_83 ?_
        replace hq := hq.2 _ rfl
        refine G_iinc C (v := _ + 1) (lv' := [(3, _), (0, _), (1, _), (2, _)]) 3 d_Mo_fieldAt_84 rfl rfl (by decide) rfl ?_
        refine G_goto C (tgt := 34) d_Mo_fieldAt_87 (by decide) ?_
        exact G_sub [1, 2, 3, 0] (by rfl) (ih _ _ _ _ hq)
def q_Mo_fieldAt_L103 (kx199 : Int32 → Int32 → Int32 → Mem → Prop) (post : Int64 → Mem → Prop) : Nat → Int32 → Int32 → Int32 → Int32 → Mem → Prop
  | 0, _, _, _, _, _ => False
  | n + 1, x1, x2, x3, x4, M => ((2 : Int32) ≤ x4 → kx199 x1 x2 x3 M) ∧ (¬ (2 : Int32) ≤ x4 → (¬ x4 = 0 → vp_in x3 12 ∧ (vp_in x3 12 ∧ (vp_in x3 12 ∧ (∀ v14, v14 = (((M.1 57 x3.toNatClampNeg) + (M.1 58 x3.toNatClampNeg)) - (M.1 58 x3.toNatClampNeg)) → vp_in (M.1 58 x3.toNatClampNeg) 6 ∧ ((¬ (M.1 64 (M.1 58 x3.toNatClampNeg).toNatClampNeg) = 0 → q_Mo_fieldAt_L103 kx199 post n x1 x2 x3 (x4 + 1) M) ∧ ((M.1 64 (M.1 58 x3.toNatClampNeg).toNatClampNeg) = 0 → vp_in (((13 : Int32) * (M.1 58 x3.toNatClampNeg)) + (M.1 58 x3.toNatClampNeg)) 156 ∧ (vp_in (((13 : Int32) * (M.1 58 x3.toNatClampNeg)) + (M.1 58 x3.toNatClampNeg)) 156 ∧ (∀ M15, M15 = wJ M 69 (((13 : Int32) * (M.1 58 x3.toNatClampNeg)) + (M.1 58 x3.toNatClampNeg)).toNatClampNeg ((M.2 69 (((13 : Int32) * (M.1 58 x3.toNatClampNeg)) + (M.1 58 x3.toNatClampNeg)).toNatClampNeg) + (1 : Int64)) → vp_in (((13 : Int32) * (M.1 58 x3.toNatClampNeg)) + v14) 156 ∧ (vp_in (((13 : Int32) * (M.1 58 x3.toNatClampNeg)) + v14) 156 ∧ (∀ M16, M16 = wJ M15 69 (((13 : Int32) * (M.1 58 x3.toNatClampNeg)) + v14).toNatClampNeg ((M15.2 69 (((13 : Int32) * (M.1 58 x3.toNatClampNeg)) + v14).toNatClampNeg) - (1 : Int64)) → q_Mo_fieldAt_L103 kx199 post n x1 x2 x3 (x4 + 1) M16)))))))))) ∧ (x4 = 0 → vp_in x3 12 ∧ (vp_in x3 12 ∧ (vp_in x3 12 ∧ (∀ v17, v17 = (((M.1 57 x3.toNatClampNeg) + (M.1 58 x3.toNatClampNeg)) - (M.1 57 x3.toNatClampNeg)) → vp_in (M.1 57 x3.toNatClampNeg) 6 ∧ ((¬ (M.1 64 (M.1 57 x3.toNatClampNeg).toNatClampNeg) = 0 → q_Mo_fieldAt_L103 kx199 post n x1 x2 x3 (x4 + 1) M) ∧ ((M.1 64 (M.1 57 x3.toNatClampNeg).toNatClampNeg) = 0 → vp_in (((13 : Int32) * (M.1 57 x3.toNatClampNeg)) + (M.1 57 x3.toNatClampNeg)) 156 ∧ (vp_in (((13 : Int32) * (M.1 57 x3.toNatClampNeg)) + (M.1 57 x3.toNatClampNeg)) 156 ∧ (∀ M18, M18 = wJ M 69 (((13 : Int32) * (M.1 57 x3.toNatClampNeg)) + (M.1 57 x3.toNatClampNeg)).toNatClampNeg ((M.2 69 (((13 : Int32) * (M.1 57 x3.toNatClampNeg)) + (M.1 57 x3.toNatClampNeg)).toNatClampNeg) + (1 : Int64)) → vp_in (((13 : Int32) * (M.1 57 x3.toNatClampNeg)) + v17) 156 ∧ (vp_in (((13 : Int32) * (M.1 57 x3.toNatClampNeg)) + v17) 156 ∧ (∀ M19, M19 = wJ M18 69 (((13 : Int32) * (M.1 57 x3.toNatClampNeg)) + v17).toNatClampNeg ((M18.2 69 (((13 : Int32) * (M.1 57 x3.toNatClampNeg)) + v17).toNatClampNeg) - (1 : Int64)) → q_Mo_fieldAt_L103 kx199 post n x1 x2 x3 (x4 + 1) M19)))))))))))
set_option maxHeartbeats 4000000 in
theorem s_Mo_fieldAt_L103 {γ : Gm} {κ : Kp} {post : Int64 → Mem → Prop} {kx199 : Int32 → Int32 → Int32 → Mem → Prop} (C : Cx γ κ "NetFormsModel" b_Mo_fieldAt 7 3 (0, 0)) (R : Rt γ (some .long)) (hx199 : ∀ y1 y2 y3 M', kx199 y1 y2 y3 M' → G γ κ 7 (0, 0) (Gq γ κ (pJ post)) 199 [(0, .ref (κ.1 + 56)), (1, .int y1), (2, .int y2), (3, .int y3)] [] M') : ∀ (n : Nat) (x1 : Int32) (x2 : Int32) (x3 : Int32) (x4 : Int32) (M : Mem), q_Mo_fieldAt_L103 kx199 post n x1 x2 x3 x4 M → G γ κ 7 (0, 0) (Gq γ κ (pJ post)) 103 [(0, .ref (κ.1 + 56)), (1, .int x1), (2, .int x2), (3, .int x3), (4, .int x4)] [] M := by
  intro n
  induction n with
  | zero => intro x1 x2 x3 x4 M hq; exact hq.elim
  | succ n ih =>
    intro x1 x2 x3 x4 M hq
    unfold q_Mo_fieldAt_L103 at hq
    refine G_iload C 4 d_Mo_fieldAt_103 rfl ?_
    refine G_iconst C (v := 2) d_Mo_fieldAt_105 (by decide) ?_
    refine G_icmp_ge C (tgt := 199) d_Mo_fieldAt_106 (by decide) (fun c => ?_) (fun c => ?_)
    · replace hq := hq.1 c
      exact G_sub [0, 1, 2, 3] (by rfl) (hx199 _ _ _ _ hq)
    · replace hq := hq.2 c
      refine G_iload C 4 d_Mo_fieldAt_109 rfl ?_
      refine G_if_ne C (tgt := 123) d_Mo_fieldAt_111 (by decide) (fun c => ?_) (fun c => ?_)
      · replace hq := hq.1 c
        refine G_aload_n C 0 d_Mo_fieldAt_123 rfl rfl ?_
        refine Gg_Mo_end C wd_525 d_Mo_fieldAt_124 ?_
        refine G_iload_n C 3 d_Mo_fieldAt_127 rfl rfl ?_
        refine G_iaload C (k := 58) (by decide) (fun _ _ => rfl) hq.1 d_Mo_fieldAt_128 ?_
        replace hq := hq.2
        refine G_istore C (lv' := [(5, _), (0, _), (1, _), (2, _), (3, _), (4, _)]) d_Mo_fieldAt_129 (by decide) rfl ?_
        refine G_aload_n C 1 d_Mo_fieldAt_131 rfl rfl ?_
        refine Gg_Mo_begin C wd_524 d_Mo_fieldAt_132 ?_
        refine G_iload_n C 4 d_Mo_fieldAt_135 rfl rfl ?_
        refine G_iaload C (k := 57) (by decide) (fun _ _ => rfl) hq.1 d_Mo_fieldAt_136 ?_
        replace hq := hq.2
        refine G_aload_n C 1 d_Mo_fieldAt_137 rfl rfl ?_
        refine Gg_Mo_end C wd_525 d_Mo_fieldAt_138 ?_
        refine G_iload_n C 4 d_Mo_fieldAt_141 rfl rfl ?_
        refine G_iaload C (k := 58) (by decide) (fun _ _ => rfl) hq.1 d_Mo_fieldAt_142 ?_
        replace hq := hq.2
        refine G_iadd C d_Mo_fieldAt_143 ?_
        refine G_iload C 0 d_Mo_fieldAt_144 rfl ?_
        refine G_isub C d_Mo_fieldAt_146 ?_
        replace hq := hq _ rfl
        refine G_istore C (lv' := [(6, _), (5, _), (0, _), (1, _), (2, _), (3, _), (4, _)]) d_Mo_fieldAt_147 (by decide) rfl ?_
        refine G_aload_n C 2 d_Mo_fieldAt_149 rfl rfl ?_
        refine Gg_Mo_isWall C wd_531 d_Mo_fieldAt_150 ?_
        refine G_iload C 1 d_Mo_fieldAt_153 rfl ?_
        refine G_baload C (k := 64) (by decide) (fun _ _ => rfl) hq.1 d_Mo_fieldAt_155 ?_
        replace hq := hq.2
        refine G_if_ne C (tgt := 193) d_Mo_fieldAt_156 (by decide) (fun c => ?_) (fun c => ?_)
        · replace hq := hq.1 c
          refine G_iinc C (v := _ + 1) (lv' := [(4, _), (6, _), (5, _), (0, _), (1, _), (2, _), (3, _)]) 6 d_Mo_fieldAt_193 rfl rfl (by decide) rfl ?_
          refine G_goto C (tgt := 103) d_Mo_fieldAt_196 (by decide) ?_
          exact G_sub [3, 4, 5, 6, 0] (by rfl) (ih _ _ _ _ _ hq)
        · replace hq := hq.2 c
          refine G_aload_n C 2 d_Mo_fieldAt_159 rfl rfl ?_
          refine Gg_Mo_table C wd_537 d_Mo_fieldAt_160 ?_
          refine G_bipush C (v := 13) d_Mo_fieldAt_163 (by decide) ?_
          refine G_iload C 1 d_Mo_fieldAt_165 rfl ?_
          refine G_imul C d_Mo_fieldAt_167 ?_
          refine G_iload C 1 d_Mo_fieldAt_168 rfl ?_
          refine G_iadd C d_Mo_fieldAt_170 ?_
          refine G_dup2 C d_Mo_fieldAt_171 rfl rfl ?_
          refine G_laload C (k := 69) (by decide) (fun _ _ => rfl) hq.1 d_Mo_fieldAt_172 ?_
          replace hq := hq.2
          refine G_lconst C (v := 1) d_Mo_fieldAt_173 (by decide) ?_
          refine G_ladd C d_Mo_fieldAt_174 ?_
          refine G_lastore C (k := 69) (by decide) (fun _ _ => rfl) hq.1 d_Mo_fieldAt_175 ?_
          replace hq := hq.2 _ rfl
          refine G_aload_n C 2 d_Mo_fieldAt_176 rfl rfl ?_
          refine Gg_Mo_table C wd_537 d_Mo_fieldAt_177 ?_
          refine G_bipush C (v := 13) d_Mo_fieldAt_180 (by decide) ?_
          refine G_iload C 1 d_Mo_fieldAt_182 rfl ?_
          refine G_imul C d_Mo_fieldAt_184 ?_
          refine G_iload C 0 d_Mo_fieldAt_185 rfl ?_
          refine G_iadd C d_Mo_fieldAt_187 ?_
          refine G_dup2 C d_Mo_fieldAt_188 rfl rfl ?_
          refine G_laload C (k := 69) (by decide) (fun _ _ => rfl) hq.1 d_Mo_fieldAt_189 ?_
          replace hq := hq.2
          refine G_lconst C (v := 1) d_Mo_fieldAt_190 (by decide) ?_
          refine G_lsub C d_Mo_fieldAt_191 ?_
          refine G_lastore C (k := 69) (by decide) (fun _ _ => rfl) hq.1 d_Mo_fieldAt_192 ?_
          replace hq := hq.2 _ rfl
          refine G_iinc C (v := _ + 1) (lv' := [(4, _), (6, _), (5, _), (0, _), (1, _), (2, _), (3, _)]) 6 d_Mo_fieldAt_193 rfl rfl (by decide) rfl ?_
          refine G_goto C (tgt := 103) d_Mo_fieldAt_196 (by decide) ?_
          exact G_sub [3, 4, 5, 6, 0] (by rfl) (ih _ _ _ _ _ hq)
      · replace hq := hq.2 c
        refine G_aload_n C 0 d_Mo_fieldAt_114 rfl rfl ?_
        refine Gg_Mo_begin C wd_524 d_Mo_fieldAt_115 ?_
        refine G_iload_n C 3 d_Mo_fieldAt_118 rfl rfl ?_
        refine G_iaload C (k := 57) (by decide) (fun _ _ => rfl) hq.1 d_Mo_fieldAt_119 ?_
        replace hq := hq.2
        refine G_goto C (tgt := 129) d_Mo_fieldAt_120 (by decide) ?_
        refine G_istore C (lv' := [(5, _), (0, _), (1, _), (2, _), (3, _), (4, _)]) d_Mo_fieldAt_129 (by decide) rfl ?_
        refine G_aload_n C 1 d_Mo_fieldAt_131 rfl rfl ?_
        refine Gg_Mo_begin C wd_524 d_Mo_fieldAt_132 ?_
        refine G_iload_n C 4 d_Mo_fieldAt_135 rfl rfl ?_
        refine G_iaload C (k := 57) (by decide) (fun _ _ => rfl) hq.1 d_Mo_fieldAt_136 ?_
        replace hq := hq.2
        refine G_aload_n C 1 d_Mo_fieldAt_137 rfl rfl ?_
        refine Gg_Mo_end C wd_525 d_Mo_fieldAt_138 ?_
        refine G_iload_n C 4 d_Mo_fieldAt_141 rfl rfl ?_
        refine G_iaload C (k := 58) (by decide) (fun _ _ => rfl) hq.1 d_Mo_fieldAt_142 ?_
        replace hq := hq.2
        refine G_iadd C d_Mo_fieldAt_143 ?_
        refine G_iload C 0 d_Mo_fieldAt_144 rfl ?_
        refine G_isub C d_Mo_fieldAt_146 ?_
        replace hq := hq _ rfl
        refine G_istore C (lv' := [(6, _), (5, _), (0, _), (1, _), (2, _), (3, _), (4, _)]) d_Mo_fieldAt_147 (by decide) rfl ?_
        refine G_aload_n C 2 d_Mo_fieldAt_149 rfl rfl ?_
        refine Gg_Mo_isWall C wd_531 d_Mo_fieldAt_150 ?_
        refine G_iload C 1 d_Mo_fieldAt_153 rfl ?_
        refine G_baload C (k := 64) (by decide) (fun _ _ => rfl) hq.1 d_Mo_fieldAt_155 ?_
        replace hq := hq.2
        refine G_if_ne C (tgt := 193) d_Mo_fieldAt_156 (by decide) (fun c => ?_) (fun c => ?_)
        · replace hq := hq.1 c
          refine G_iinc C (v := _ + 1) (lv' := [(4, _), (6, _), (5, _), (0, _), (1, _), (2, _), (3, _)]) 6 d_Mo_fieldAt_193 rfl rfl (by decide) rfl ?_
          refine G_goto C (tgt := 103) d_Mo_fieldAt_196 (by decide) ?_
          exact G_sub [3, 4, 5, 6, 0] (by rfl) (ih _ _ _ _ _ hq)
        · replace hq := hq.2 c
          refine G_aload_n C 2 d_Mo_fieldAt_159 rfl rfl ?_
          refine Gg_Mo_table C wd_537 d_Mo_fieldAt_160 ?_
          refine G_bipush C (v := 13) d_Mo_fieldAt_163 (by decide) ?_
          refine G_iload C 1 d_Mo_fieldAt_165 rfl ?_
          refine G_imul C d_Mo_fieldAt_167 ?_
          refine G_iload C 1 d_Mo_fieldAt_168 rfl ?_
          refine G_iadd C d_Mo_fieldAt_170 ?_
          refine G_dup2 C d_Mo_fieldAt_171 rfl rfl ?_
          refine G_laload C (k := 69) (by decide) (fun _ _ => rfl) hq.1 d_Mo_fieldAt_172 ?_
          replace hq := hq.2
          refine G_lconst C (v := 1) d_Mo_fieldAt_173 (by decide) ?_
          refine G_ladd C d_Mo_fieldAt_174 ?_
          refine G_lastore C (k := 69) (by decide) (fun _ _ => rfl) hq.1 d_Mo_fieldAt_175 ?_
          replace hq := hq.2 _ rfl
          refine G_aload_n C 2 d_Mo_fieldAt_176 rfl rfl ?_
          refine Gg_Mo_table C wd_537 d_Mo_fieldAt_177 ?_
          refine G_bipush C (v := 13) d_Mo_fieldAt_180 (by decide) ?_
          refine G_iload C 1 d_Mo_fieldAt_182 rfl ?_
          refine G_imul C d_Mo_fieldAt_184 ?_
          refine G_iload C 0 d_Mo_fieldAt_185 rfl ?_
          refine G_iadd C d_Mo_fieldAt_187 ?_
          refine G_dup2 C d_Mo_fieldAt_188 rfl rfl ?_
          refine G_laload C (k := 69) (by decide) (fun _ _ => rfl) hq.1 d_Mo_fieldAt_189 ?_
          replace hq := hq.2
          refine G_lconst C (v := 1) d_Mo_fieldAt_190 (by decide) ?_
          refine G_lsub C d_Mo_fieldAt_191 ?_
          refine G_lastore C (k := 69) (by decide) (fun _ _ => rfl) hq.1 d_Mo_fieldAt_192 ?_
          replace hq := hq.2 _ rfl
          refine G_iinc C (v := _ + 1) (lv' := [(4, _), (6, _), (5, _), (0, _), (1, _), (2, _), (3, _)]) 6 d_Mo_fieldAt_193 rfl rfl (by decide) rfl ?_
          refine G_goto C (tgt := 103) d_Mo_fieldAt_196 (by decide) ?_
          exact G_sub [3, 4, 5, 6, 0] (by rfl) (ih _ _ _ _ _ hq)
def q_Mo_fieldAt_L92 (kx205 : Int32 → Int32 → Mem → Prop) (post : Int64 → Mem → Prop) : Nat → Int32 → Int32 → Int32 → Mem → Prop
  | 0, _, _, _, _ => False
  | n + 1, x1, x2, x3, M => ((M.1 56 1) ≤ x3 → kx205 x1 x2 M) ∧ (¬ (M.1 56 1) ≤ x3 → ∃ n20, q_Mo_fieldAt_L103 (fun x21 x22 x23 M24 => q_Mo_fieldAt_L92 kx205 post n x21 x22 (x23 + 1) M24) post n20 x1 x2 x3 (0 : Int32) M)
set_option maxHeartbeats 4000000 in
theorem s_Mo_fieldAt_L92 {γ : Gm} {κ : Kp} {post : Int64 → Mem → Prop} {kx205 : Int32 → Int32 → Mem → Prop} (C : Cx γ κ "NetFormsModel" b_Mo_fieldAt 7 3 (0, 0)) (R : Rt γ (some .long)) (hx205 : ∀ y1 y2 M', kx205 y1 y2 M' → G γ κ 7 (0, 0) (Gq γ κ (pJ post)) 205 [(0, .ref (κ.1 + 56)), (1, .int y1), (2, .int y2)] [] M') : ∀ (n : Nat) (x1 : Int32) (x2 : Int32) (x3 : Int32) (M : Mem), q_Mo_fieldAt_L92 kx205 post n x1 x2 x3 M → G γ κ 7 (0, 0) (Gq γ κ (pJ post)) 92 [(0, .ref (κ.1 + 56)), (1, .int x1), (2, .int x2), (3, .int x3)] [] M := by
  intro n
  induction n with
  | zero => intro x1 x2 x3 M hq; exact hq.elim
  | succ n ih =>
    intro x1 x2 x3 M hq
    unfold q_Mo_fieldAt_L92 at hq
    refine G_iload_n C 3 d_Mo_fieldAt_92 rfl rfl ?_
    refine G_aload_n C 0 d_Mo_fieldAt_93 rfl rfl ?_
    refine Gg_Mo_edges C wd_522 d_Mo_fieldAt_94 ?_
    refine G_icmp_ge C (tgt := 205) d_Mo_fieldAt_97 (by decide) (fun c => ?_) (fun c => ?_)
    · replace hq := hq.1 c
      exact G_sub [0, 1, 2] (by rfl) (hx205 _ _ _ hq)
    · replace hq := hq.2 c
      refine G_iconst C (v := 0) d_Mo_fieldAt_100 (by decide) ?_
      refine G_istore C (lv' := [(4, _), (0, _), (1, _), (2, _), (3, _)]) d_Mo_fieldAt_101 (by decide) rfl ?_
      obtain ⟨n20, hq⟩ := hq
      refine G_sub [1, 2, 3, 4, 0] (by rfl) (s_Mo_fieldAt_L103 C R ?_ n20 _ _ _ _ _ hq)
      · intro x21 x22 x23 M24 hq
        refine G_iinc C (v := _ + 1) (lv' := [(3, _), (0, _), (1, _), (2, _)]) 3 d_Mo_fieldAt_199 rfl rfl (by decide) rfl ?_
        refine G_goto C (tgt := 92) d_Mo_fieldAt_202 (by decide) ?_
        exact G_sub [1, 2, 3, 0] (by rfl) (ih _ _ _ _ hq)
def q_Mo_fieldAt (a1 : Int32) (a2 : Int32) (M : Mem) (post : Int64 → Mem → Prop) : Prop := q_Mo_isPoint a1 M (fun r2 M1 => (r2 = 0 → post (0 : Int64) M1) ∧ (¬ r2 = 0 → q_Mo_in a2.toInt64 (0 : Int64) (1 : Int64) M1 (fun r4 M3 => (r4 = 0 → post (0 : Int64) M3) ∧ (¬ r4 = 0 → q_Mo_forbids M3 (fun r6 M5 => (r6 = (-1 : Int32) → q_Mo_empties M5 (fun M7 => ∃ n10, q_Mo_fieldAt_L34 (fun x11 x12 M13 => ∃ n25, q_Mo_fieldAt_L92 (fun x26 x27 M28 => q_Mo_solves (M28.1 56 0) M28 (fun M29 => vp_in x26 12 ∧ (q_Mo_lowest (M29.2 71 x26.toNatClampNeg) (M29.2 56 18) x27 M29 (fun r31 M30 => post r31 M30)))) post n25 x11 x12 (0 : Int32) M13) post n10 a1 a2 (0 : Int32) M7)) ∧ (¬ r6 = (-1 : Int32) → post (0 : Int64) M5))))))
set_option maxHeartbeats 4000000 in
theorem s_Mo_fieldAt {l : Launch} {κ : Kp} {a1 : Int32} {a2 : Int32} {M : Mem} {post : Int64 → Mem → Prop} (hq : q_Mo_fieldAt a1 a2 M post) : Ct l κ y_Mo_fieldAt b_Mo_fieldAt 7 (some .long) 3 [.ref (κ.1 + 56), .int a1, .int a2] M (pJ post) := by
  refine Ct_of (by decide) (Nat.le_of_ble_eq_true rfl) (fun γ hγ C R => ?_)
  subst hγ
  unfold q_Mo_fieldAt at hq
  show G γ κ 7 (0, 0) (Gq γ κ (pJ post)) 0 [(0, .ref (κ.1 + 56)), (1, .int a1), (2, .int a2)] [] M
  refine G_aload_n C 0 d_Mo_fieldAt_0 rfl rfl ?_
  refine G_iload_n C 1 d_Mo_fieldAt_1 rfl rfl ?_
  refine G_callV C (s_Mo_isPoint hq) v_Mo_isPoint i_Mo_isPoint z_Mo_isPoint wd_616 (by decide) rfl (k := 56) (ci := 7) (by decide) rfl rfl rfl (rest := []) (by rfl) (Nat.le_of_ble_eq_true rfl) d_Mo_fieldAt_2 (ki_ (fun r2 M1 hq => ?_))
  refine G_if_eq C (tgt := 26) d_Mo_fieldAt_5 (by decide) (fun c => ?_) (fun c => ?_)
  · replace hq := hq.1 c
    refine G_lconst C (v := 0) d_Mo_fieldAt_26 (by decide) ?_
    exact G_lret C R d_Mo_fieldAt_27 ⟨_, rfl, hq⟩
  · replace hq := hq.2 c
    refine G_iload_n C 2 d_Mo_fieldAt_8 rfl rfl ?_
    refine G_i2l C d_Mo_fieldAt_9 ?_
    refine G_lconst C (v := 0) d_Mo_fieldAt_10 (by decide) ?_
    refine G_lconst C (v := 1) d_Mo_fieldAt_11 (by decide) ?_
    refine G_callS C (s_Mo_in hq) v_Mo_in z_Mo_in wd_605 (by decide) rfl (rest := []) (by rfl) (Nat.le_of_ble_eq_true rfl) d_Mo_fieldAt_12 (ki_ (fun r4 M3 hq => ?_))
    refine G_if_eq C (tgt := 26) d_Mo_fieldAt_15 (by decide) (fun c => ?_) (fun c => ?_)
    · replace hq := hq.1 c
      refine G_lconst C (v := 0) d_Mo_fieldAt_26 (by decide) ?_
      exact G_lret C R d_Mo_fieldAt_27 ⟨_, rfl, hq⟩
    · replace hq := hq.2 c
      refine G_aload_n C 0 d_Mo_fieldAt_18 rfl rfl ?_
      refine G_callV C (s_Mo_forbids hq) v_Mo_forbids i_Mo_forbids z_Mo_forbids wd_784 (by decide) rfl (k := 56) (ci := 7) (by decide) rfl rfl rfl (rest := []) (by rfl) (Nat.le_of_ble_eq_true rfl) d_Mo_fieldAt_19 (ki_ (fun r6 M5 hq => ?_))
      refine G_iconst C (v := -1) d_Mo_fieldAt_22 (by decide) ?_
      refine G_icmp_eq C (tgt := 28) d_Mo_fieldAt_23 (by decide) (fun c => ?_) (fun c => ?_)
      · replace hq := hq.1 c
        refine G_aload_n C 0 d_Mo_fieldAt_28 rfl rfl ?_
        refine G_callV C (s_Mo_empties hq) v_Mo_empties i_Mo_empties z_Mo_empties wd_731 (by decide) rfl (k := 56) (ci := 7) (by decide) rfl rfl rfl (rest := []) (by rfl) (Nat.le_of_ble_eq_true rfl) d_Mo_fieldAt_29 (kv_ (fun M7 hq => ?_))
        refine G_iconst C (v := 0) d_Mo_fieldAt_32 (by decide) ?_
        refine G_istore_n C (lv' := [(3, _), (0, _), (1, _), (2, _)]) d_Mo_fieldAt_33 rfl (by decide) rfl ?_
        obtain ⟨n10, hq⟩ := hq
        refine G_sub [1, 2, 3, 0] (by rfl) (s_Mo_fieldAt_L34 C R ?_ n10 _ _ _ _ hq)
        · intro x11 x12 M13 hq
          refine G_iconst C (v := 0) d_Mo_fieldAt_90 (by decide) ?_
          refine G_istore_n C (lv' := [(3, _), (0, _), (1, _), (2, _)]) d_Mo_fieldAt_91 rfl (by decide) rfl ?_
          obtain ⟨n25, hq⟩ := hq
          refine G_sub [1, 2, 3, 0] (by rfl) (s_Mo_fieldAt_L92 C R ?_ n25 _ _ _ _ hq)
          · intro x26 x27 M28 hq
            refine G_aload_n C 0 d_Mo_fieldAt_205 rfl rfl ?_
            refine G_aload_n C 0 d_Mo_fieldAt_206 rfl rfl ?_
            refine Gg_Mo_points C wd_521 d_Mo_fieldAt_207 ?_
            refine G_callV C (s_Mo_solves hq) v_Mo_solves i_Mo_solves z_Mo_solves wd_757 (by decide) rfl (k := 56) (ci := 7) (by decide) rfl rfl rfl (rest := []) (by rfl) (Nat.le_of_ble_eq_true rfl) d_Mo_fieldAt_210 (kv_ (fun M29 hq => ?_))
            refine G_aload_n C 0 d_Mo_fieldAt_213 rfl rfl ?_
            refine Gg_Mo_solved C wd_540 d_Mo_fieldAt_214 ?_
            refine G_iload_n C 1 d_Mo_fieldAt_217 rfl rfl ?_
            refine G_laload C (k := 71) (by decide) (fun _ _ => rfl) hq.1 d_Mo_fieldAt_218 ?_
            replace hq := hq.2
            refine G_aload_n C 0 d_Mo_fieldAt_219 rfl rfl ?_
            refine Gg_Mo_shared C wd_539 d_Mo_fieldAt_220 ?_
            refine G_iload_n C 2 d_Mo_fieldAt_223 rfl rfl ?_
            refine G_callS C (s_Mo_lowest hq) v_Mo_lowest z_Mo_lowest wd_765 (by decide) rfl (rest := []) (by rfl) (Nat.le_of_ble_eq_true rfl) d_Mo_fieldAt_224 (kj_ (fun r31 M30 hq => ?_))
            exact G_lret C R d_Mo_fieldAt_227 ⟨_, rfl, hq⟩
      · replace hq := hq.2 c
        refine G_lconst C (v := 0) d_Mo_fieldAt_26 (by decide) ?_
        exact G_lret C R d_Mo_fieldAt_27 ⟨_, rfl, hq⟩
theorem d_Mo_digest_0 : decode b_Mo_digest 0 = .ok (.ldc2_w 220, 3) := by decide +kernel
theorem d_Mo_digest_3 : decode b_Mo_digest 3 = .ok (.lstore_n 1, 1) := by decide +kernel
theorem d_Mo_digest_4 : decode b_Mo_digest 4 = .ok (.iconst 0, 1) := by decide +kernel
theorem d_Mo_digest_5 : decode b_Mo_digest 5 = .ok (.istore_n 3, 1) := by decide +kernel
theorem d_Mo_digest_6 : decode b_Mo_digest 6 = .ok (.iload_n 3, 1) := by decide +kernel
theorem d_Mo_digest_7 : decode b_Mo_digest 7 = .ok (.iconst 5, 1) := by decide +kernel
theorem d_Mo_digest_8 : decode b_Mo_digest 8 = .ok (.if_icmp .ge 22, 3) := by decide +kernel
theorem d_Mo_digest_11 : decode b_Mo_digest 11 = .ok (.ldc2_w 222, 3) := by decide +kernel
theorem d_Mo_digest_14 : decode b_Mo_digest 14 = .ok (.lload_n 1, 1) := by decide +kernel
theorem d_Mo_digest_15 : decode b_Mo_digest 15 = .ok (.lmul, 1) := by decide +kernel
theorem d_Mo_digest_16 : decode b_Mo_digest 16 = .ok (.aload_n 0, 1) := by decide +kernel
theorem d_Mo_digest_17 : decode b_Mo_digest 17 = .ok (.iload_n 3, 1) := by decide +kernel
theorem d_Mo_digest_18 : decode b_Mo_digest 18 = .ok (.invokevirtual 224, 3) := by decide +kernel
theorem d_Mo_digest_21 : decode b_Mo_digest 21 = .ok (.i2l, 1) := by decide +kernel
theorem d_Mo_digest_22 : decode b_Mo_digest 22 = .ok (.ladd, 1) := by decide +kernel
theorem d_Mo_digest_23 : decode b_Mo_digest 23 = .ok (.lstore_n 1, 1) := by decide +kernel
theorem d_Mo_digest_24 : decode b_Mo_digest 24 = .ok (.iinc 3 1, 3) := by decide +kernel
theorem d_Mo_digest_27 : decode b_Mo_digest 27 = .ok (.goto (-21), 3) := by decide +kernel
theorem d_Mo_digest_30 : decode b_Mo_digest 30 = .ok (.iconst 0, 1) := by decide +kernel
theorem d_Mo_digest_31 : decode b_Mo_digest 31 = .ok (.istore_n 3, 1) := by decide +kernel
theorem d_Mo_digest_32 : decode b_Mo_digest 32 = .ok (.iload_n 3, 1) := by decide +kernel
theorem d_Mo_digest_33 : decode b_Mo_digest 33 = .ok (.aload_n 0, 1) := by decide +kernel
theorem d_Mo_digest_34 : decode b_Mo_digest 34 = .ok (.getfield 79, 3) := by decide +kernel
theorem d_Mo_digest_37 : decode b_Mo_digest 37 = .ok (.if_icmp .ge 35, 3) := by decide +kernel
theorem d_Mo_digest_40 : decode b_Mo_digest 40 = .ok (.ldc2_w 222, 3) := by decide +kernel
theorem d_Mo_digest_43 : decode b_Mo_digest 43 = .ok (.ldc2_w 222, 3) := by decide +kernel
theorem d_Mo_digest_46 : decode b_Mo_digest 46 = .ok (.lload_n 1, 1) := by decide +kernel
theorem d_Mo_digest_47 : decode b_Mo_digest 47 = .ok (.lmul, 1) := by decide +kernel
theorem d_Mo_digest_48 : decode b_Mo_digest 48 = .ok (.aload_n 0, 1) := by decide +kernel
theorem d_Mo_digest_49 : decode b_Mo_digest 49 = .ok (.getfield 13, 3) := by decide +kernel
theorem d_Mo_digest_52 : decode b_Mo_digest 52 = .ok (.iload_n 3, 1) := by decide +kernel
theorem d_Mo_digest_53 : decode b_Mo_digest 53 = .ok (.iaload, 1) := by decide +kernel
theorem d_Mo_digest_54 : decode b_Mo_digest 54 = .ok (.i2l, 1) := by decide +kernel
theorem d_Mo_digest_55 : decode b_Mo_digest 55 = .ok (.ladd, 1) := by decide +kernel
theorem d_Mo_digest_56 : decode b_Mo_digest 56 = .ok (.lmul, 1) := by decide +kernel
theorem d_Mo_digest_57 : decode b_Mo_digest 57 = .ok (.aload_n 0, 1) := by decide +kernel
theorem d_Mo_digest_58 : decode b_Mo_digest 58 = .ok (.getfield 17, 3) := by decide +kernel
theorem d_Mo_digest_61 : decode b_Mo_digest 61 = .ok (.iload_n 3, 1) := by decide +kernel
theorem d_Mo_digest_62 : decode b_Mo_digest 62 = .ok (.iaload, 1) := by decide +kernel
theorem d_Mo_digest_63 : decode b_Mo_digest 63 = .ok (.i2l, 1) := by decide +kernel
theorem d_Mo_digest_64 : decode b_Mo_digest 64 = .ok (.ladd, 1) := by decide +kernel
theorem d_Mo_digest_65 : decode b_Mo_digest 65 = .ok (.lstore_n 1, 1) := by decide +kernel
theorem d_Mo_digest_66 : decode b_Mo_digest 66 = .ok (.iinc 3 1, 3) := by decide +kernel
theorem d_Mo_digest_69 : decode b_Mo_digest 69 = .ok (.goto (-37), 3) := by decide +kernel
theorem d_Mo_digest_72 : decode b_Mo_digest 72 = .ok (.iconst 0, 1) := by decide +kernel
theorem d_Mo_digest_73 : decode b_Mo_digest 73 = .ok (.istore_n 3, 1) := by decide +kernel
theorem d_Mo_digest_74 : decode b_Mo_digest 74 = .ok (.iload_n 3, 1) := by decide +kernel
theorem d_Mo_digest_75 : decode b_Mo_digest 75 = .ok (.aload_n 0, 1) := by decide +kernel
theorem d_Mo_digest_76 : decode b_Mo_digest 76 = .ok (.getfield 82, 3) := by decide +kernel
theorem d_Mo_digest_79 : decode b_Mo_digest 79 = .ok (.if_icmp .ge 47, 3) := by decide +kernel
theorem d_Mo_digest_82 : decode b_Mo_digest 82 = .ok (.ldc2_w 222, 3) := by decide +kernel
theorem d_Mo_digest_85 : decode b_Mo_digest 85 = .ok (.ldc2_w 222, 3) := by decide +kernel
theorem d_Mo_digest_88 : decode b_Mo_digest 88 = .ok (.ldc2_w 222, 3) := by decide +kernel
theorem d_Mo_digest_91 : decode b_Mo_digest 91 = .ok (.lload_n 1, 1) := by decide +kernel
theorem d_Mo_digest_92 : decode b_Mo_digest 92 = .ok (.lmul, 1) := by decide +kernel
theorem d_Mo_digest_93 : decode b_Mo_digest 93 = .ok (.aload_n 0, 1) := by decide +kernel
theorem d_Mo_digest_94 : decode b_Mo_digest 94 = .ok (.getfield 20, 3) := by decide +kernel
theorem d_Mo_digest_97 : decode b_Mo_digest 97 = .ok (.iload_n 3, 1) := by decide +kernel
theorem d_Mo_digest_98 : decode b_Mo_digest 98 = .ok (.iaload, 1) := by decide +kernel
theorem d_Mo_digest_99 : decode b_Mo_digest 99 = .ok (.i2l, 1) := by decide +kernel
theorem d_Mo_digest_100 : decode b_Mo_digest 100 = .ok (.ladd, 1) := by decide +kernel
theorem d_Mo_digest_101 : decode b_Mo_digest 101 = .ok (.lmul, 1) := by decide +kernel
theorem d_Mo_digest_102 : decode b_Mo_digest 102 = .ok (.aload_n 0, 1) := by decide +kernel
theorem d_Mo_digest_103 : decode b_Mo_digest 103 = .ok (.getfield 23, 3) := by decide +kernel
theorem d_Mo_digest_106 : decode b_Mo_digest 106 = .ok (.iload_n 3, 1) := by decide +kernel
theorem d_Mo_digest_107 : decode b_Mo_digest 107 = .ok (.iaload, 1) := by decide +kernel
theorem d_Mo_digest_108 : decode b_Mo_digest 108 = .ok (.i2l, 1) := by decide +kernel
theorem d_Mo_digest_109 : decode b_Mo_digest 109 = .ok (.ladd, 1) := by decide +kernel
theorem d_Mo_digest_110 : decode b_Mo_digest 110 = .ok (.lmul, 1) := by decide +kernel
theorem d_Mo_digest_111 : decode b_Mo_digest 111 = .ok (.aload_n 0, 1) := by decide +kernel
theorem d_Mo_digest_112 : decode b_Mo_digest 112 = .ok (.getfield 26, 3) := by decide +kernel
theorem d_Mo_digest_115 : decode b_Mo_digest 115 = .ok (.iload_n 3, 1) := by decide +kernel
theorem d_Mo_digest_116 : decode b_Mo_digest 116 = .ok (.iaload, 1) := by decide +kernel
theorem d_Mo_digest_117 : decode b_Mo_digest 117 = .ok (.i2l, 1) := by decide +kernel
theorem d_Mo_digest_118 : decode b_Mo_digest 118 = .ok (.ladd, 1) := by decide +kernel
theorem d_Mo_digest_119 : decode b_Mo_digest 119 = .ok (.lstore_n 1, 1) := by decide +kernel
theorem d_Mo_digest_120 : decode b_Mo_digest 120 = .ok (.iinc 3 1, 3) := by decide +kernel
theorem d_Mo_digest_123 : decode b_Mo_digest 123 = .ok (.goto (-49), 3) := by decide +kernel
theorem d_Mo_digest_126 : decode b_Mo_digest 126 = .ok (.iconst 0, 1) := by decide +kernel
theorem d_Mo_digest_127 : decode b_Mo_digest 127 = .ok (.istore_n 3, 1) := by decide +kernel
theorem d_Mo_digest_128 : decode b_Mo_digest 128 = .ok (.iload_n 3, 1) := by decide +kernel
theorem d_Mo_digest_129 : decode b_Mo_digest 129 = .ok (.bipush 12, 2) := by decide +kernel
theorem d_Mo_digest_131 : decode b_Mo_digest 131 = .ok (.if_icmp .ge 61, 3) := by decide +kernel
theorem d_Mo_digest_134 : decode b_Mo_digest 134 = .ok (.ldc2_w 222, 3) := by decide +kernel
theorem d_Mo_digest_137 : decode b_Mo_digest 137 = .ok (.lload_n 1, 1) := by decide +kernel
theorem d_Mo_digest_138 : decode b_Mo_digest 138 = .ok (.lmul, 1) := by decide +kernel
theorem d_Mo_digest_139 : decode b_Mo_digest 139 = .ok (.aload_n 0, 1) := by decide +kernel
theorem d_Mo_digest_140 : decode b_Mo_digest 140 = .ok (.getfield 29, 3) := by decide +kernel
theorem d_Mo_digest_143 : decode b_Mo_digest 143 = .ok (.iload_n 3, 1) := by decide +kernel
theorem d_Mo_digest_144 : decode b_Mo_digest 144 = .ok (.iaload, 1) := by decide +kernel
theorem d_Mo_digest_145 : decode b_Mo_digest 145 = .ok (.i2l, 1) := by decide +kernel
theorem d_Mo_digest_146 : decode b_Mo_digest 146 = .ok (.ladd, 1) := by decide +kernel
theorem d_Mo_digest_147 : decode b_Mo_digest 147 = .ok (.lstore_n 1, 1) := by decide +kernel
theorem d_Mo_digest_148 : decode b_Mo_digest 148 = .ok (.iconst 0, 1) := by decide +kernel
theorem d_Mo_digest_149 : decode b_Mo_digest 149 = .ok (.istore 4, 2) := by decide +kernel
theorem d_Mo_digest_151 : decode b_Mo_digest 151 = .ok (.iload 4, 2) := by decide +kernel
theorem d_Mo_digest_153 : decode b_Mo_digest 153 = .ok (.aload_n 0, 1) := by decide +kernel
theorem d_Mo_digest_154 : decode b_Mo_digest 154 = .ok (.aload_n 0, 1) := by decide +kernel
theorem d_Mo_digest_155 : decode b_Mo_digest 155 = .ok (.getfield 29, 3) := by decide +kernel
theorem d_Mo_digest_158 : decode b_Mo_digest 158 = .ok (.iload_n 3, 1) := by decide +kernel
theorem d_Mo_digest_159 : decode b_Mo_digest 159 = .ok (.iaload, 1) := by decide +kernel
theorem d_Mo_digest_160 : decode b_Mo_digest 160 = .ok (.invokevirtual 107, 3) := by decide +kernel
theorem d_Mo_digest_163 : decode b_Mo_digest 163 = .ok (.if_icmp .ge 23, 3) := by decide +kernel
theorem d_Mo_digest_166 : decode b_Mo_digest 166 = .ok (.ldc2_w 222, 3) := by decide +kernel
theorem d_Mo_digest_169 : decode b_Mo_digest 169 = .ok (.lload_n 1, 1) := by decide +kernel
theorem d_Mo_digest_170 : decode b_Mo_digest 170 = .ok (.lmul, 1) := by decide +kernel
theorem d_Mo_digest_171 : decode b_Mo_digest 171 = .ok (.aload_n 0, 1) := by decide +kernel
theorem d_Mo_digest_172 : decode b_Mo_digest 172 = .ok (.iload_n 3, 1) := by decide +kernel
theorem d_Mo_digest_173 : decode b_Mo_digest 173 = .ok (.iload 4, 2) := by decide +kernel
theorem d_Mo_digest_175 : decode b_Mo_digest 175 = .ok (.invokevirtual 120, 3) := by decide +kernel
theorem d_Mo_digest_178 : decode b_Mo_digest 178 = .ok (.ladd, 1) := by decide +kernel
theorem d_Mo_digest_179 : decode b_Mo_digest 179 = .ok (.lstore_n 1, 1) := by decide +kernel
theorem d_Mo_digest_180 : decode b_Mo_digest 180 = .ok (.iinc 4 1, 3) := by decide +kernel
theorem d_Mo_digest_183 : decode b_Mo_digest 183 = .ok (.goto (-32), 3) := by decide +kernel
theorem d_Mo_digest_186 : decode b_Mo_digest 186 = .ok (.iinc 3 1, 3) := by decide +kernel
theorem d_Mo_digest_189 : decode b_Mo_digest 189 = .ok (.goto (-61), 3) := by decide +kernel
theorem d_Mo_digest_192 : decode b_Mo_digest 192 = .ok (.iconst 0, 1) := by decide +kernel
theorem d_Mo_digest_193 : decode b_Mo_digest 193 = .ok (.istore_n 3, 1) := by decide +kernel
theorem d_Mo_digest_194 : decode b_Mo_digest 194 = .ok (.iload_n 3, 1) := by decide +kernel
theorem d_Mo_digest_195 : decode b_Mo_digest 195 = .ok (.aload_n 0, 1) := by decide +kernel
theorem d_Mo_digest_196 : decode b_Mo_digest 196 = .ok (.getfield 7, 3) := by decide +kernel
theorem d_Mo_digest_199 : decode b_Mo_digest 199 = .ok (.if_icmp .ge 43, 3) := by decide +kernel
theorem d_Mo_digest_202 : decode b_Mo_digest 202 = .ok (.aload_n 0, 1) := by decide +kernel
theorem d_Mo_digest_203 : decode b_Mo_digest 203 = .ok (.getfield 35, 3) := by decide +kernel
theorem d_Mo_digest_206 : decode b_Mo_digest 206 = .ok (.iload_n 3, 1) := by decide +kernel
theorem d_Mo_digest_207 : decode b_Mo_digest 207 = .ok (.baload, 1) := by decide +kernel
theorem d_Mo_digest_208 : decode b_Mo_digest 208 = .ok (.ifCond .eq 26, 3) := by decide +kernel
theorem d_Mo_digest_211 : decode b_Mo_digest 211 = .ok (.ldc2_w 222, 3) := by decide +kernel
theorem d_Mo_digest_214 : decode b_Mo_digest 214 = .ok (.ldc2_w 222, 3) := by decide +kernel
theorem d_Mo_digest_217 : decode b_Mo_digest 217 = .ok (.lload_n 1, 1) := by decide +kernel
theorem d_Mo_digest_218 : decode b_Mo_digest 218 = .ok (.lmul, 1) := by decide +kernel
theorem d_Mo_digest_219 : decode b_Mo_digest 219 = .ok (.iload_n 3, 1) := by decide +kernel
theorem d_Mo_digest_220 : decode b_Mo_digest 220 = .ok (.i2l, 1) := by decide +kernel
theorem d_Mo_digest_221 : decode b_Mo_digest 221 = .ok (.ladd, 1) := by decide +kernel
theorem d_Mo_digest_222 : decode b_Mo_digest 222 = .ok (.lmul, 1) := by decide +kernel
theorem d_Mo_digest_223 : decode b_Mo_digest 223 = .ok (.aload_n 0, 1) := by decide +kernel
theorem d_Mo_digest_224 : decode b_Mo_digest 224 = .ok (.getfield 39, 3) := by decide +kernel
theorem d_Mo_digest_227 : decode b_Mo_digest 227 = .ok (.iload_n 3, 1) := by decide +kernel
theorem d_Mo_digest_228 : decode b_Mo_digest 228 = .ok (.iaload, 1) := by decide +kernel
theorem d_Mo_digest_229 : decode b_Mo_digest 229 = .ok (.i2l, 1) := by decide +kernel
theorem d_Mo_digest_230 : decode b_Mo_digest 230 = .ok (.ladd, 1) := by decide +kernel
theorem d_Mo_digest_231 : decode b_Mo_digest 231 = .ok (.goto 4, 3) := by decide +kernel
theorem d_Mo_digest_234 : decode b_Mo_digest 234 = .ok (.lload_n 1, 1) := by decide +kernel
theorem d_Mo_digest_235 : decode b_Mo_digest 235 = .ok (.lstore_n 1, 1) := by decide +kernel
theorem d_Mo_digest_236 : decode b_Mo_digest 236 = .ok (.iinc 3 1, 3) := by decide +kernel
theorem d_Mo_digest_239 : decode b_Mo_digest 239 = .ok (.goto (-45), 3) := by decide +kernel
theorem d_Mo_digest_242 : decode b_Mo_digest 242 = .ok (.iconst 0, 1) := by decide +kernel
theorem d_Mo_digest_243 : decode b_Mo_digest 243 = .ok (.istore_n 3, 1) := by decide +kernel
theorem d_Mo_digest_244 : decode b_Mo_digest 244 = .ok (.iload_n 3, 1) := by decide +kernel
theorem d_Mo_digest_245 : decode b_Mo_digest 245 = .ok (.aload_n 0, 1) := by decide +kernel
theorem d_Mo_digest_246 : decode b_Mo_digest 246 = .ok (.getfield 7, 3) := by decide +kernel
theorem d_Mo_digest_249 : decode b_Mo_digest 249 = .ok (.if_icmp .ge 22, 3) := by decide +kernel
theorem d_Mo_digest_252 : decode b_Mo_digest 252 = .ok (.ldc2_w 222, 3) := by decide +kernel
theorem d_Mo_digest_255 : decode b_Mo_digest 255 = .ok (.lload_n 1, 1) := by decide +kernel
theorem d_Mo_digest_256 : decode b_Mo_digest 256 = .ok (.lmul, 1) := by decide +kernel
theorem d_Mo_digest_257 : decode b_Mo_digest 257 = .ok (.aload_n 0, 1) := by decide +kernel
theorem d_Mo_digest_258 : decode b_Mo_digest 258 = .ok (.getfield 42, 3) := by decide +kernel
theorem d_Mo_digest_261 : decode b_Mo_digest 261 = .ok (.iload_n 3, 1) := by decide +kernel
theorem d_Mo_digest_262 : decode b_Mo_digest 262 = .ok (.laload, 1) := by decide +kernel
theorem d_Mo_digest_263 : decode b_Mo_digest 263 = .ok (.ladd, 1) := by decide +kernel
theorem d_Mo_digest_264 : decode b_Mo_digest 264 = .ok (.lstore_n 1, 1) := by decide +kernel
theorem d_Mo_digest_265 : decode b_Mo_digest 265 = .ok (.iinc 3 1, 3) := by decide +kernel
theorem d_Mo_digest_268 : decode b_Mo_digest 268 = .ok (.goto (-24), 3) := by decide +kernel
theorem d_Mo_digest_271 : decode b_Mo_digest 271 = .ok (.iconst 0, 1) := by decide +kernel
theorem d_Mo_digest_272 : decode b_Mo_digest 272 = .ok (.istore_n 3, 1) := by decide +kernel
theorem d_Mo_digest_273 : decode b_Mo_digest 273 = .ok (.iload_n 3, 1) := by decide +kernel
theorem d_Mo_digest_274 : decode b_Mo_digest 274 = .ok (.aload_n 0, 1) := by decide +kernel
theorem d_Mo_digest_275 : decode b_Mo_digest 275 = .ok (.getfield 79, 3) := by decide +kernel
theorem d_Mo_digest_278 : decode b_Mo_digest 278 = .ok (.if_icmp .ge 22, 3) := by decide +kernel
theorem d_Mo_digest_281 : decode b_Mo_digest 281 = .ok (.ldc2_w 222, 3) := by decide +kernel
theorem d_Mo_digest_284 : decode b_Mo_digest 284 = .ok (.lload_n 1, 1) := by decide +kernel
theorem d_Mo_digest_285 : decode b_Mo_digest 285 = .ok (.lmul, 1) := by decide +kernel
theorem d_Mo_digest_286 : decode b_Mo_digest 286 = .ok (.aload_n 0, 1) := by decide +kernel
theorem d_Mo_digest_287 : decode b_Mo_digest 287 = .ok (.getfield 46, 3) := by decide +kernel
theorem d_Mo_digest_290 : decode b_Mo_digest 290 = .ok (.iload_n 3, 1) := by decide +kernel
theorem d_Mo_digest_291 : decode b_Mo_digest 291 = .ok (.laload, 1) := by decide +kernel
theorem d_Mo_digest_292 : decode b_Mo_digest 292 = .ok (.ladd, 1) := by decide +kernel
theorem d_Mo_digest_293 : decode b_Mo_digest 293 = .ok (.lstore_n 1, 1) := by decide +kernel
theorem d_Mo_digest_294 : decode b_Mo_digest 294 = .ok (.iinc 3 1, 3) := by decide +kernel
theorem d_Mo_digest_297 : decode b_Mo_digest 297 = .ok (.goto (-24), 3) := by decide +kernel
theorem d_Mo_digest_300 : decode b_Mo_digest 300 = .ok (.lload_n 1, 1) := by decide +kernel
theorem d_Mo_digest_301 : decode b_Mo_digest 301 = .ok (.lreturn, 1) := by decide +kernel
def q_Mo_digest_L6 (kx30 : Int64 → Mem → Prop) (post : Int64 → Mem → Prop) : Nat → Int64 → Int32 → Mem → Prop
  | 0, _, _, _ => False
  | n + 1, x1, x3, M => ((5 : Int32) ≤ x3 → kx30 x1 M) ∧ (¬ (5 : Int32) ≤ x3 → q_Mo_count x3 M (fun r2 M1 => q_Mo_digest_L6 kx30 post n (((31 : Int64) * x1) + r2.toInt64) (x3 + 1) M1))
set_option maxHeartbeats 4000000 in
theorem s_Mo_digest_L6 {γ : Gm} {κ : Kp} {post : Int64 → Mem → Prop} {kx30 : Int64 → Mem → Prop} (C : Cx γ κ "NetFormsModel" b_Mo_digest 5 3 (0, 0)) (R : Rt γ (some .long)) (hx30 : ∀ y1 M', kx30 y1 M' → G γ κ 5 (0, 0) (Gq γ κ (pJ post)) 30 [(0, .ref (κ.1 + 56)), (1, .long y1)] [] M') : ∀ (n : Nat) (x1 : Int64) (x3 : Int32) (M : Mem), q_Mo_digest_L6 kx30 post n x1 x3 M → G γ κ 5 (0, 0) (Gq γ κ (pJ post)) 6 [(0, .ref (κ.1 + 56)), (1, .long x1), (3, .int x3)] [] M := by
  intro n
  induction n with
  | zero => intro x1 x3 M hq; exact hq.elim
  | succ n ih =>
    intro x1 x3 M hq
    unfold q_Mo_digest_L6 at hq
    refine G_iload_n C 2 d_Mo_digest_6 rfl rfl ?_
    refine G_iconst C (v := 5) d_Mo_digest_7 (by decide) ?_
    refine G_icmp_ge C (tgt := 30) d_Mo_digest_8 (by decide) (fun c => ?_) (fun c => ?_)
    · replace hq := hq.1 c
      exact G_sub [0, 1] (by rfl) (hx30 _ _ hq)
    · replace hq := hq.2 c
      refine G_ldc2 C (v := 31) wd_831 d_Mo_digest_11 ?_
      refine G_lload_n C 1 d_Mo_digest_14 rfl rfl ?_
      refine G_lmul C d_Mo_digest_15 ?_
      refine G_aload_n C 0 d_Mo_digest_16 rfl rfl ?_
      refine G_iload_n C 2 d_Mo_digest_17 rfl rfl ?_
      refine G_callV C (s_Mo_count hq) v_Mo_count i_Mo_count z_Mo_count wd_832 (by decide) rfl (k := 56) (ci := 7) (by decide) rfl rfl rfl (rest := [_]) (by rfl) (Nat.le_of_ble_eq_true rfl) d_Mo_digest_18 (ki_ (fun r2 M1 hq => ?_))
      refine G_i2l C d_Mo_digest_21 ?_
      refine G_ladd C d_Mo_digest_22 ?_
      refine G_lstore_n C (lv' := [(1, _), (0, _), (3, _)]) d_Mo_digest_23 rfl (by decide) rfl ?_
      refine G_iinc C (v := _ + 1) (lv' := [(3, _), (1, _), (0, _)]) 2 d_Mo_digest_24 rfl rfl (by decide) rfl ?_
      refine G_goto C (tgt := 6) d_Mo_digest_27 (by decide) ?_
      exact G_sub [2, 1, 0] (by rfl) (ih _ _ _ hq)
def q_Mo_digest_L32 (kx72 : Int64 → Mem → Prop) (post : Int64 → Mem → Prop) : Nat → Int64 → Int32 → Mem → Prop
  | 0, _, _, _ => False
  | n + 1, x1, x3, M => ((M.1 56 1) ≤ x3 → kx72 x1 M) ∧ (¬ (M.1 56 1) ≤ x3 → vp_in x3 12 ∧ (vp_in x3 12 ∧ (∀ v6, v6 = (((31 : Int64) * (((31 : Int64) * x1) + ((M.1 57 x3.toNatClampNeg).toInt64))) + ((M.1 58 x3.toNatClampNeg).toInt64)) → q_Mo_digest_L32 kx72 post n v6 (x3 + 1) M)))
set_option maxHeartbeats 4000000 in
theorem s_Mo_digest_L32 {γ : Gm} {κ : Kp} {post : Int64 → Mem → Prop} {kx72 : Int64 → Mem → Prop} (C : Cx γ κ "NetFormsModel" b_Mo_digest 5 3 (0, 0)) (R : Rt γ (some .long)) (hx72 : ∀ y1 M', kx72 y1 M' → G γ κ 5 (0, 0) (Gq γ κ (pJ post)) 72 [(0, .ref (κ.1 + 56)), (1, .long y1)] [] M') : ∀ (n : Nat) (x1 : Int64) (x3 : Int32) (M : Mem), q_Mo_digest_L32 kx72 post n x1 x3 M → G γ κ 5 (0, 0) (Gq γ κ (pJ post)) 32 [(0, .ref (κ.1 + 56)), (1, .long x1), (3, .int x3)] [] M := by
  intro n
  induction n with
  | zero => intro x1 x3 M hq; exact hq.elim
  | succ n ih =>
    intro x1 x3 M hq
    unfold q_Mo_digest_L32 at hq
    refine G_iload_n C 2 d_Mo_digest_32 rfl rfl ?_
    refine G_aload_n C 0 d_Mo_digest_33 rfl rfl ?_
    refine Gg_Mo_edges C wd_522 d_Mo_digest_34 ?_
    refine G_icmp_ge C (tgt := 72) d_Mo_digest_37 (by decide) (fun c => ?_) (fun c => ?_)
    · replace hq := hq.1 c
      exact G_sub [0, 1] (by rfl) (hx72 _ _ hq)
    · replace hq := hq.2 c
      refine G_ldc2 C (v := 31) wd_831 d_Mo_digest_40 ?_
      refine G_ldc2 C (v := 31) wd_831 d_Mo_digest_43 ?_
      refine G_lload_n C 1 d_Mo_digest_46 rfl rfl ?_
      refine G_lmul C d_Mo_digest_47 ?_
      refine G_aload_n C 0 d_Mo_digest_48 rfl rfl ?_
      refine Gg_Mo_begin C wd_524 d_Mo_digest_49 ?_
      refine G_iload_n C 2 d_Mo_digest_52 rfl rfl ?_
      refine G_iaload C (k := 57) (by decide) (fun _ _ => rfl) hq.1 d_Mo_digest_53 ?_
      replace hq := hq.2
      refine G_i2l C d_Mo_digest_54 ?_
      refine G_ladd C d_Mo_digest_55 ?_
      refine G_lmul C d_Mo_digest_56 ?_
      refine G_aload_n C 0 d_Mo_digest_57 rfl rfl ?_
      refine Gg_Mo_end C wd_525 d_Mo_digest_58 ?_
      refine G_iload_n C 2 d_Mo_digest_61 rfl rfl ?_
      refine G_iaload C (k := 58) (by decide) (fun _ _ => rfl) hq.1 d_Mo_digest_62 ?_
      replace hq := hq.2
      refine G_i2l C d_Mo_digest_63 ?_
      refine G_ladd C d_Mo_digest_64 ?_
      replace hq := hq _ rfl
      refine G_lstore_n C (lv' := [(1, _), (0, _), (3, _)]) d_Mo_digest_65 rfl (by decide) rfl ?_
      refine G_iinc C (v := _ + 1) (lv' := [(3, _), (1, _), (0, _)]) 2 d_Mo_digest_66 rfl rfl (by decide) rfl ?_
      refine G_goto C (tgt := 32) d_Mo_digest_69 (by decide) ?_
      exact G_sub [2, 1, 0] (by rfl) (ih _ _ _ hq)
def q_Mo_digest_L74 (kx126 : Int64 → Mem → Prop) (post : Int64 → Mem → Prop) : Nat → Int64 → Int32 → Mem → Prop
  | 0, _, _, _ => False
  | n + 1, x1, x3, M => ((M.1 56 2) ≤ x3 → kx126 x1 M) ∧ (¬ (M.1 56 2) ≤ x3 → vp_in x3 10 ∧ (vp_in x3 10 ∧ (vp_in x3 10 ∧ (∀ v10, v10 = (((31 : Int64) * (((31 : Int64) * (((31 : Int64) * x1) + ((M.1 59 x3.toNatClampNeg).toInt64))) + ((M.1 60 x3.toNatClampNeg).toInt64))) + ((M.1 61 x3.toNatClampNeg).toInt64)) → q_Mo_digest_L74 kx126 post n v10 (x3 + 1) M))))
set_option maxHeartbeats 4000000 in
theorem s_Mo_digest_L74 {γ : Gm} {κ : Kp} {post : Int64 → Mem → Prop} {kx126 : Int64 → Mem → Prop} (C : Cx γ κ "NetFormsModel" b_Mo_digest 5 3 (0, 0)) (R : Rt γ (some .long)) (hx126 : ∀ y1 M', kx126 y1 M' → G γ κ 5 (0, 0) (Gq γ κ (pJ post)) 126 [(0, .ref (κ.1 + 56)), (1, .long y1)] [] M') : ∀ (n : Nat) (x1 : Int64) (x3 : Int32) (M : Mem), q_Mo_digest_L74 kx126 post n x1 x3 M → G γ κ 5 (0, 0) (Gq γ κ (pJ post)) 74 [(0, .ref (κ.1 + 56)), (1, .long x1), (3, .int x3)] [] M := by
  intro n
  induction n with
  | zero => intro x1 x3 M hq; exact hq.elim
  | succ n ih =>
    intro x1 x3 M hq
    unfold q_Mo_digest_L74 at hq
    refine G_iload_n C 2 d_Mo_digest_74 rfl rfl ?_
    refine G_aload_n C 0 d_Mo_digest_75 rfl rfl ?_
    refine Gg_Mo_faces C wd_523 d_Mo_digest_76 ?_
    refine G_icmp_ge C (tgt := 126) d_Mo_digest_79 (by decide) (fun c => ?_) (fun c => ?_)
    · replace hq := hq.1 c
      exact G_sub [0, 1] (by rfl) (hx126 _ _ hq)
    · replace hq := hq.2 c
      refine G_ldc2 C (v := 31) wd_831 d_Mo_digest_82 ?_
      refine G_ldc2 C (v := 31) wd_831 d_Mo_digest_85 ?_
      refine G_ldc2 C (v := 31) wd_831 d_Mo_digest_88 ?_
      refine G_lload_n C 1 d_Mo_digest_91 rfl rfl ?_
      refine G_lmul C d_Mo_digest_92 ?_
      refine G_aload_n C 0 d_Mo_digest_93 rfl rfl ?_
      refine Gg_Mo_first C wd_526 d_Mo_digest_94 ?_
      refine G_iload_n C 2 d_Mo_digest_97 rfl rfl ?_
      refine G_iaload C (k := 59) (by decide) (fun _ _ => rfl) hq.1 d_Mo_digest_98 ?_
      replace hq := hq.2
      refine G_i2l C d_Mo_digest_99 ?_
      refine G_ladd C d_Mo_digest_100 ?_
      refine G_lmul C d_Mo_digest_101 ?_
      refine G_aload_n C 0 d_Mo_digest_102 rfl rfl ?_
      refine Gg_Mo_second C wd_527 d_Mo_digest_103 ?_
      refine G_iload_n C 2 d_Mo_digest_106 rfl rfl ?_
      refine G_iaload C (k := 60) (by decide) (fun _ _ => rfl) hq.1 d_Mo_digest_107 ?_
      replace hq := hq.2
      refine G_i2l C d_Mo_digest_108 ?_
      refine G_ladd C d_Mo_digest_109 ?_
      refine G_lmul C d_Mo_digest_110 ?_
      refine G_aload_n C 0 d_Mo_digest_111 rfl rfl ?_
      refine Gg_Mo_third C wd_528 d_Mo_digest_112 ?_
      refine G_iload_n C 2 d_Mo_digest_115 rfl rfl ?_
      refine G_iaload C (k := 61) (by decide) (fun _ _ => rfl) hq.1 d_Mo_digest_116 ?_
      replace hq := hq.2
      refine G_i2l C d_Mo_digest_117 ?_
      refine G_ladd C d_Mo_digest_118 ?_
      replace hq := hq _ rfl
      refine G_lstore_n C (lv' := [(1, _), (0, _), (3, _)]) d_Mo_digest_119 rfl (by decide) rfl ?_
      refine G_iinc C (v := _ + 1) (lv' := [(3, _), (1, _), (0, _)]) 2 d_Mo_digest_120 rfl rfl (by decide) rfl ?_
      refine G_goto C (tgt := 74) d_Mo_digest_123 (by decide) ?_
      exact G_sub [2, 1, 0] (by rfl) (ih _ _ _ hq)
def q_Mo_digest_L151 (kx186 : Int64 → Int32 → Mem → Prop) (post : Int64 → Mem → Prop) : Nat → Int64 → Int32 → Int32 → Mem → Prop
  | 0, _, _, _, _ => False
  | n + 1, x1, x3, x4, M => vp_in x3 12 ∧ (q_Mo_size (M.1 62 x3.toNatClampNeg) M (fun r15 M14 => (r15 ≤ x4 → kx186 x1 x3 M14) ∧ (¬ r15 ≤ x4 → q_Mo_at x3 x4 M14 (fun r17 M16 => q_Mo_digest_L151 kx186 post n (((31 : Int64) * x1) + r17) x3 (x4 + 1) M16))))
set_option maxHeartbeats 4000000 in
theorem s_Mo_digest_L151 {γ : Gm} {κ : Kp} {post : Int64 → Mem → Prop} {kx186 : Int64 → Int32 → Mem → Prop} (C : Cx γ κ "NetFormsModel" b_Mo_digest 5 3 (0, 0)) (R : Rt γ (some .long)) (hx186 : ∀ y1 y2 M', kx186 y1 y2 M' → G γ κ 5 (0, 0) (Gq γ κ (pJ post)) 186 [(0, .ref (κ.1 + 56)), (1, .long y1), (3, .int y2)] [] M') : ∀ (n : Nat) (x1 : Int64) (x3 : Int32) (x4 : Int32) (M : Mem), q_Mo_digest_L151 kx186 post n x1 x3 x4 M → G γ κ 5 (0, 0) (Gq γ κ (pJ post)) 151 [(0, .ref (κ.1 + 56)), (1, .long x1), (3, .int x3), (4, .int x4)] [] M := by
  intro n
  induction n with
  | zero => intro x1 x3 x4 M hq; exact hq.elim
  | succ n ih =>
    intro x1 x3 x4 M hq
    unfold q_Mo_digest_L151 at hq
    refine G_iload C 3 d_Mo_digest_151 rfl ?_
    refine G_aload_n C 0 d_Mo_digest_153 rfl rfl ?_
    refine G_aload_n C 0 d_Mo_digest_154 rfl rfl ?_
    refine Gg_Mo_degree C wd_529 d_Mo_digest_155 ?_
    refine G_iload_n C 2 d_Mo_digest_158 rfl rfl ?_
    refine G_iaload C (k := 62) (by decide) (fun _ _ => rfl) hq.1 d_Mo_digest_159 ?_
    replace hq := hq.2
    refine G_callV C (s_Mo_size hq) v_Mo_size i_Mo_size z_Mo_size wd_649 (by decide) rfl (k := 56) (ci := 7) (by decide) rfl rfl rfl (rest := [_]) (by rfl) (Nat.le_of_ble_eq_true rfl) d_Mo_digest_160 (ki_ (fun r15 M14 hq => ?_))
    refine G_icmp_ge C (tgt := 186) d_Mo_digest_163 (by decide) (fun c => ?_) (fun c => ?_)
    · replace hq := hq.1 c
      exact G_sub [0, 1, 2] (by rfl) (hx186 _ _ _ hq)
    · replace hq := hq.2 c
      refine G_ldc2 C (v := 31) wd_831 d_Mo_digest_166 ?_
      refine G_lload_n C 1 d_Mo_digest_169 rfl rfl ?_
      refine G_lmul C d_Mo_digest_170 ?_
      refine G_aload_n C 0 d_Mo_digest_171 rfl rfl ?_
      refine G_iload_n C 2 d_Mo_digest_172 rfl rfl ?_
      refine G_iload C 3 d_Mo_digest_173 rfl ?_
      refine G_callV C (s_Mo_at hq) v_Mo_at i_Mo_at z_Mo_at wd_668 (by decide) rfl (k := 56) (ci := 7) (by decide) rfl rfl rfl (rest := [_]) (by rfl) (Nat.le_of_ble_eq_true rfl) d_Mo_digest_175 (kj_ (fun r17 M16 hq => ?_))
      refine G_ladd C d_Mo_digest_178 ?_
      refine G_lstore_n C (lv' := [(1, _), (0, _), (3, _), (4, _)]) d_Mo_digest_179 rfl (by decide) rfl ?_
      refine G_iinc C (v := _ + 1) (lv' := [(4, _), (1, _), (0, _), (3, _)]) 3 d_Mo_digest_180 rfl rfl (by decide) rfl ?_
      refine G_goto C (tgt := 151) d_Mo_digest_183 (by decide) ?_
      exact G_sub [2, 1, 3, 0] (by rfl) (ih _ _ _ _ hq)
def q_Mo_digest_L128 (kx192 : Int64 → Mem → Prop) (post : Int64 → Mem → Prop) : Nat → Int64 → Int32 → Mem → Prop
  | 0, _, _, _ => False
  | n + 1, x1, x3, M => ((12 : Int32) ≤ x3 → kx192 x1 M) ∧ (¬ (12 : Int32) ≤ x3 → vp_in x3 12 ∧ (∃ n18, q_Mo_digest_L151 (fun x19 x20 M21 => q_Mo_digest_L128 kx192 post n x19 (x20 + 1) M21) post n18 (((31 : Int64) * x1) + ((M.1 62 x3.toNatClampNeg).toInt64)) x3 (0 : Int32) M))
set_option maxHeartbeats 4000000 in
theorem s_Mo_digest_L128 {γ : Gm} {κ : Kp} {post : Int64 → Mem → Prop} {kx192 : Int64 → Mem → Prop} (C : Cx γ κ "NetFormsModel" b_Mo_digest 5 3 (0, 0)) (R : Rt γ (some .long)) (hx192 : ∀ y1 M', kx192 y1 M' → G γ κ 5 (0, 0) (Gq γ κ (pJ post)) 192 [(0, .ref (κ.1 + 56)), (1, .long y1)] [] M') : ∀ (n : Nat) (x1 : Int64) (x3 : Int32) (M : Mem), q_Mo_digest_L128 kx192 post n x1 x3 M → G γ κ 5 (0, 0) (Gq γ κ (pJ post)) 128 [(0, .ref (κ.1 + 56)), (1, .long x1), (3, .int x3)] [] M := by
  intro n
  induction n with
  | zero => intro x1 x3 M hq; exact hq.elim
  | succ n ih =>
    intro x1 x3 M hq
    unfold q_Mo_digest_L128 at hq
    refine G_iload_n C 2 d_Mo_digest_128 rfl rfl ?_
    refine G_bipush C (v := 12) d_Mo_digest_129 (by decide) ?_
    refine G_icmp_ge C (tgt := 192) d_Mo_digest_131 (by decide) (fun c => ?_) (fun c => ?_)
    · replace hq := hq.1 c
      exact G_sub [0, 1] (by rfl) (hx192 _ _ hq)
    · replace hq := hq.2 c
      refine G_ldc2 C (v := 31) wd_831 d_Mo_digest_134 ?_
      refine G_lload_n C 1 d_Mo_digest_137 rfl rfl ?_
      refine G_lmul C d_Mo_digest_138 ?_
      refine G_aload_n C 0 d_Mo_digest_139 rfl rfl ?_
      refine Gg_Mo_degree C wd_529 d_Mo_digest_140 ?_
      refine G_iload_n C 2 d_Mo_digest_143 rfl rfl ?_
      refine G_iaload C (k := 62) (by decide) (fun _ _ => rfl) hq.1 d_Mo_digest_144 ?_
      replace hq := hq.2
      refine G_i2l C d_Mo_digest_145 ?_
      refine G_ladd C d_Mo_digest_146 ?_
      refine G_lstore_n C (lv' := [(1, _), (0, _), (3, _)]) d_Mo_digest_147 rfl (by decide) rfl ?_
      refine G_iconst C (v := 0) d_Mo_digest_148 (by decide) ?_
      refine G_istore C (lv' := [(4, _), (1, _), (0, _), (3, _)]) d_Mo_digest_149 (by decide) rfl ?_
      obtain ⟨n18, hq⟩ := hq
      refine G_sub [2, 1, 3, 0] (by rfl) (s_Mo_digest_L151 C R ?_ n18 _ _ _ _ hq)
      · intro x19 x20 M21 hq
        refine G_iinc C (v := _ + 1) (lv' := [(3, _), (0, _), (1, _)]) 2 d_Mo_digest_186 rfl rfl (by decide) rfl ?_
        refine G_goto C (tgt := 128) d_Mo_digest_189 (by decide) ?_
        exact G_sub [1, 2, 0] (by rfl) (ih _ _ _ hq)
def q_Mo_digest_L194 (kx242 : Int64 → Mem → Prop) (post : Int64 → Mem → Prop) : Nat → Int64 → Int32 → Mem → Prop
  | 0, _, _, _ => False
  | n + 1, x1, x3, M => ((M.1 56 0) ≤ x3 → kx242 x1 M) ∧ (¬ (M.1 56 0) ≤ x3 → vp_in x3 6 ∧ (((M.1 64 x3.toNatClampNeg) = 0 → q_Mo_digest_L194 kx242 post n x1 (x3 + 1) M) ∧ (¬ (M.1 64 x3.toNatClampNeg) = 0 → vp_in x3 6 ∧ (∀ v25, v25 = (((31 : Int64) * (((31 : Int64) * x1) + x3.toInt64)) + ((M.1 65 x3.toNatClampNeg).toInt64)) → q_Mo_digest_L194 kx242 post n v25 (x3 + 1) M))))
set_option maxHeartbeats 4000000 in
theorem s_Mo_digest_L194 {γ : Gm} {κ : Kp} {post : Int64 → Mem → Prop} {kx242 : Int64 → Mem → Prop} (C : Cx γ κ "NetFormsModel" b_Mo_digest 5 3 (0, 0)) (R : Rt γ (some .long)) (hx242 : ∀ y1 M', kx242 y1 M' → G γ κ 5 (0, 0) (Gq γ κ (pJ post)) 242 [(0, .ref (κ.1 + 56)), (1, .long y1)] [] M') : ∀ (n : Nat) (x1 : Int64) (x3 : Int32) (M : Mem), q_Mo_digest_L194 kx242 post n x1 x3 M → G γ κ 5 (0, 0) (Gq γ κ (pJ post)) 194 [(0, .ref (κ.1 + 56)), (1, .long x1), (3, .int x3)] [] M := by
  intro n
  induction n with
  | zero => intro x1 x3 M hq; exact hq.elim
  | succ n ih =>
    intro x1 x3 M hq
    unfold q_Mo_digest_L194 at hq
    refine G_iload_n C 2 d_Mo_digest_194 rfl rfl ?_
    refine G_aload_n C 0 d_Mo_digest_195 rfl rfl ?_
    refine Gg_Mo_points C wd_521 d_Mo_digest_196 ?_
    refine G_icmp_ge C (tgt := 242) d_Mo_digest_199 (by decide) (fun c => ?_) (fun c => ?_)
    · replace hq := hq.1 c
      exact G_sub [0, 1] (by rfl) (hx242 _ _ hq)
    · replace hq := hq.2 c
      refine G_aload_n C 0 d_Mo_digest_202 rfl rfl ?_
      refine Gg_Mo_isWall C wd_531 d_Mo_digest_203 ?_
      refine G_iload_n C 2 d_Mo_digest_206 rfl rfl ?_
      refine G_baload C (k := 64) (by decide) (fun _ _ => rfl) hq.1 d_Mo_digest_207 ?_
      replace hq := hq.2
      refine G_if_eq C (tgt := 234) d_Mo_digest_208 (by decide) (fun c => ?_) (fun c => ?_)
      · replace hq := hq.1 c
        refine G_lload_n C 1 d_Mo_digest_234 rfl rfl ?_
        refine G_lstore_n C (lv' := [(1, _), (0, _), (3, _)]) d_Mo_digest_235 rfl (by decide) rfl ?_
        refine G_iinc C (v := _ + 1) (lv' := [(3, _), (1, _), (0, _)]) 2 d_Mo_digest_236 rfl rfl (by decide) rfl ?_
        refine G_goto C (tgt := 194) d_Mo_digest_239 (by decide) ?_
        exact G_sub [2, 1, 0] (by rfl) (ih _ _ _ hq)
      · replace hq := hq.2 c
        refine G_ldc2 C (v := 31) wd_831 d_Mo_digest_211 ?_
        refine G_ldc2 C (v := 31) wd_831 d_Mo_digest_214 ?_
        refine G_lload_n C 1 d_Mo_digest_217 rfl rfl ?_
        refine G_lmul C d_Mo_digest_218 ?_
        refine G_iload_n C 2 d_Mo_digest_219 rfl rfl ?_
        refine G_i2l C d_Mo_digest_220 ?_
        refine G_ladd C d_Mo_digest_221 ?_
        refine G_lmul C d_Mo_digest_222 ?_
        refine G_aload_n C 0 d_Mo_digest_223 rfl rfl ?_
        refine Gg_Mo_wall C wd_532 d_Mo_digest_224 ?_
        refine G_iload_n C 2 d_Mo_digest_227 rfl rfl ?_
        refine G_iaload C (k := 65) (by decide) (fun _ _ => rfl) hq.1 d_Mo_digest_228 ?_
        replace hq := hq.2
        refine G_i2l C d_Mo_digest_229 ?_
        refine G_ladd C d_Mo_digest_230 ?_
        refine G_goto C (tgt := 235) d_Mo_digest_231 (by decide) ?_
        replace hq := hq _ rfl
        refine G_lstore_n C (lv' := [(1, _), (0, _), (3, _)]) d_Mo_digest_235 rfl (by decide) rfl ?_
        refine G_iinc C (v := _ + 1) (lv' := [(3, _), (1, _), (0, _)]) 2 d_Mo_digest_236 rfl rfl (by decide) rfl ?_
        refine G_goto C (tgt := 194) d_Mo_digest_239 (by decide) ?_
        exact G_sub [2, 1, 0] (by rfl) (ih _ _ _ hq)
def q_Mo_digest_L244 (kx271 : Int64 → Mem → Prop) (post : Int64 → Mem → Prop) : Nat → Int64 → Int32 → Mem → Prop
  | 0, _, _, _ => False
  | n + 1, x1, x3, M => ((M.1 56 0) ≤ x3 → kx271 x1 M) ∧ (¬ (M.1 56 0) ≤ x3 → vp_in x3 6 ∧ (q_Mo_digest_L244 kx271 post n (((31 : Int64) * x1) + (M.2 66 x3.toNatClampNeg)) (x3 + 1) M))
set_option maxHeartbeats 4000000 in
theorem s_Mo_digest_L244 {γ : Gm} {κ : Kp} {post : Int64 → Mem → Prop} {kx271 : Int64 → Mem → Prop} (C : Cx γ κ "NetFormsModel" b_Mo_digest 5 3 (0, 0)) (R : Rt γ (some .long)) (hx271 : ∀ y1 M', kx271 y1 M' → G γ κ 5 (0, 0) (Gq γ κ (pJ post)) 271 [(0, .ref (κ.1 + 56)), (1, .long y1)] [] M') : ∀ (n : Nat) (x1 : Int64) (x3 : Int32) (M : Mem), q_Mo_digest_L244 kx271 post n x1 x3 M → G γ κ 5 (0, 0) (Gq γ κ (pJ post)) 244 [(0, .ref (κ.1 + 56)), (1, .long x1), (3, .int x3)] [] M := by
  intro n
  induction n with
  | zero => intro x1 x3 M hq; exact hq.elim
  | succ n ih =>
    intro x1 x3 M hq
    unfold q_Mo_digest_L244 at hq
    refine G_iload_n C 2 d_Mo_digest_244 rfl rfl ?_
    refine G_aload_n C 0 d_Mo_digest_245 rfl rfl ?_
    refine Gg_Mo_points C wd_521 d_Mo_digest_246 ?_
    refine G_icmp_ge C (tgt := 271) d_Mo_digest_249 (by decide) (fun c => ?_) (fun c => ?_)
    · replace hq := hq.1 c
      exact G_sub [0, 1] (by rfl) (hx271 _ _ hq)
    · replace hq := hq.2 c
      refine G_ldc2 C (v := 31) wd_831 d_Mo_digest_252 ?_
      refine G_lload_n C 1 d_Mo_digest_255 rfl rfl ?_
      refine G_lmul C d_Mo_digest_256 ?_
      refine G_aload_n C 0 d_Mo_digest_257 rfl rfl ?_
      refine Gg_Mo_height C wd_533 d_Mo_digest_258 ?_
      refine G_iload_n C 2 d_Mo_digest_261 rfl rfl ?_
      refine G_laload C (k := 66) (by decide) (fun _ _ => rfl) hq.1 d_Mo_digest_262 ?_
      replace hq := hq.2
      refine G_ladd C d_Mo_digest_263 ?_
      refine G_lstore_n C (lv' := [(1, _), (0, _), (3, _)]) d_Mo_digest_264 rfl (by decide) rfl ?_
      refine G_iinc C (v := _ + 1) (lv' := [(3, _), (1, _), (0, _)]) 2 d_Mo_digest_265 rfl rfl (by decide) rfl ?_
      refine G_goto C (tgt := 244) d_Mo_digest_268 (by decide) ?_
      exact G_sub [2, 1, 0] (by rfl) (ih _ _ _ hq)
def q_Mo_digest_L273 (kx300 : Int64 → Mem → Prop) (post : Int64 → Mem → Prop) : Nat → Int64 → Int32 → Mem → Prop
  | 0, _, _, _ => False
  | n + 1, x1, x3, M => ((M.1 56 1) ≤ x3 → kx300 x1 M) ∧ (¬ (M.1 56 1) ≤ x3 → vp_in x3 12 ∧ (q_Mo_digest_L273 kx300 post n (((31 : Int64) * x1) + (M.2 67 x3.toNatClampNeg)) (x3 + 1) M))
set_option maxHeartbeats 4000000 in
theorem s_Mo_digest_L273 {γ : Gm} {κ : Kp} {post : Int64 → Mem → Prop} {kx300 : Int64 → Mem → Prop} (C : Cx γ κ "NetFormsModel" b_Mo_digest 5 3 (0, 0)) (R : Rt γ (some .long)) (hx300 : ∀ y0 M', kx300 y0 M' → G γ κ 5 (0, 0) (Gq γ κ (pJ post)) 300 [(1, .long y0)] [] M') : ∀ (n : Nat) (x1 : Int64) (x3 : Int32) (M : Mem), q_Mo_digest_L273 kx300 post n x1 x3 M → G γ κ 5 (0, 0) (Gq γ κ (pJ post)) 273 [(0, .ref (κ.1 + 56)), (1, .long x1), (3, .int x3)] [] M := by
  intro n
  induction n with
  | zero => intro x1 x3 M hq; exact hq.elim
  | succ n ih =>
    intro x1 x3 M hq
    unfold q_Mo_digest_L273 at hq
    refine G_iload_n C 2 d_Mo_digest_273 rfl rfl ?_
    refine G_aload_n C 0 d_Mo_digest_274 rfl rfl ?_
    refine Gg_Mo_edges C wd_522 d_Mo_digest_275 ?_
    refine G_icmp_ge C (tgt := 300) d_Mo_digest_278 (by decide) (fun c => ?_) (fun c => ?_)
    · replace hq := hq.1 c
      exact G_sub [1] (by rfl) (hx300 _ _ hq)
    · replace hq := hq.2 c
      refine G_ldc2 C (v := 31) wd_831 d_Mo_digest_281 ?_
      refine G_lload_n C 1 d_Mo_digest_284 rfl rfl ?_
      refine G_lmul C d_Mo_digest_285 ?_
      refine G_aload_n C 0 d_Mo_digest_286 rfl rfl ?_
      refine Gg_Mo_flow C wd_534 d_Mo_digest_287 ?_
      refine G_iload_n C 2 d_Mo_digest_290 rfl rfl ?_
      refine G_laload C (k := 67) (by decide) (fun _ _ => rfl) hq.1 d_Mo_digest_291 ?_
      replace hq := hq.2
      refine G_ladd C d_Mo_digest_292 ?_
      refine G_lstore_n C (lv' := [(1, _), (0, _), (3, _)]) d_Mo_digest_293 rfl (by decide) rfl ?_
      refine G_iinc C (v := _ + 1) (lv' := [(3, _), (1, _), (0, _)]) 2 d_Mo_digest_294 rfl rfl (by decide) rfl ?_
      refine G_goto C (tgt := 273) d_Mo_digest_297 (by decide) ?_
      exact G_sub [2, 1, 0] (by rfl) (ih _ _ _ hq)
def q_Mo_digest (M : Mem) (post : Int64 → Mem → Prop) : Prop := ∃ n3, q_Mo_digest_L6 (fun x4 M5 => ∃ n7, q_Mo_digest_L32 (fun x8 M9 => ∃ n11, q_Mo_digest_L74 (fun x12 M13 => ∃ n22, q_Mo_digest_L128 (fun x23 M24 => ∃ n26, q_Mo_digest_L194 (fun x27 M28 => ∃ n29, q_Mo_digest_L244 (fun x30 M31 => ∃ n32, q_Mo_digest_L273 (fun x33 M34 => post x33 M34) post n32 x30 (0 : Int32) M31) post n29 x27 (0 : Int32) M28) post n26 x23 (0 : Int32) M24) post n22 x12 (0 : Int32) M13) post n11 x8 (0 : Int32) M9) post n7 x4 (0 : Int32) M5) post n3 (109 : Int64) (0 : Int32) M
set_option maxHeartbeats 4000000 in
theorem s_Mo_digest {l : Launch} {κ : Kp} {M : Mem} {post : Int64 → Mem → Prop} (hq : q_Mo_digest M post) : Ct l κ y_Mo_digest b_Mo_digest 5 (some .long) 3 [.ref (κ.1 + 56)] M (pJ post) := by
  refine Ct_of (by decide) (Nat.le_of_ble_eq_true rfl) (fun γ hγ C R => ?_)
  subst hγ
  unfold q_Mo_digest at hq
  show G γ κ 5 (0, 0) (Gq γ κ (pJ post)) 0 [(0, .ref (κ.1 + 56))] [] M
  refine G_ldc2 C (v := 109) wd_830 d_Mo_digest_0 ?_
  refine G_lstore_n C (lv' := [(1, _), (0, _)]) d_Mo_digest_3 rfl (by decide) rfl ?_
  refine G_iconst C (v := 0) d_Mo_digest_4 (by decide) ?_
  refine G_istore_n C (lv' := [(3, _), (1, _), (0, _)]) d_Mo_digest_5 rfl (by decide) rfl ?_
  obtain ⟨n3, hq⟩ := hq
  refine G_sub [2, 1, 0] (by rfl) (s_Mo_digest_L6 C R ?_ n3 _ _ _ hq)
  · intro x4 M5 hq
    refine G_iconst C (v := 0) d_Mo_digest_30 (by decide) ?_
    refine G_istore_n C (lv' := [(3, _), (0, _), (1, _)]) d_Mo_digest_31 rfl (by decide) rfl ?_
    obtain ⟨n7, hq⟩ := hq
    refine G_sub [1, 2, 0] (by rfl) (s_Mo_digest_L32 C R ?_ n7 _ _ _ hq)
    · intro x8 M9 hq
      refine G_iconst C (v := 0) d_Mo_digest_72 (by decide) ?_
      refine G_istore_n C (lv' := [(3, _), (0, _), (1, _)]) d_Mo_digest_73 rfl (by decide) rfl ?_
      obtain ⟨n11, hq⟩ := hq
      refine G_sub [1, 2, 0] (by rfl) (s_Mo_digest_L74 C R ?_ n11 _ _ _ hq)
      · intro x12 M13 hq
        refine G_iconst C (v := 0) d_Mo_digest_126 (by decide) ?_
        refine G_istore_n C (lv' := [(3, _), (0, _), (1, _)]) d_Mo_digest_127 rfl (by decide) rfl ?_
        obtain ⟨n22, hq⟩ := hq
        refine G_sub [1, 2, 0] (by rfl) (s_Mo_digest_L128 C R ?_ n22 _ _ _ hq)
        · intro x23 M24 hq
          refine G_iconst C (v := 0) d_Mo_digest_192 (by decide) ?_
          refine G_istore_n C (lv' := [(3, _), (0, _), (1, _)]) d_Mo_digest_193 rfl (by decide) rfl ?_
          obtain ⟨n26, hq⟩ := hq
          refine G_sub [1, 2, 0] (by rfl) (s_Mo_digest_L194 C R ?_ n26 _ _ _ hq)
          · intro x27 M28 hq
            refine G_iconst C (v := 0) d_Mo_digest_242 (by decide) ?_
            refine G_istore_n C (lv' := [(3, _), (0, _), (1, _)]) d_Mo_digest_243 rfl (by decide) rfl ?_
            obtain ⟨n29, hq⟩ := hq
            refine G_sub [1, 2, 0] (by rfl) (s_Mo_digest_L244 C R ?_ n29 _ _ _ hq)
            · intro x30 M31 hq
              refine G_iconst C (v := 0) d_Mo_digest_271 (by decide) ?_
              refine G_istore_n C (lv' := [(3, _), (0, _), (1, _)]) d_Mo_digest_272 rfl (by decide) rfl ?_
              obtain ⟨n32, hq⟩ := hq
              refine G_sub [1, 2, 0] (by rfl) (s_Mo_digest_L273 C R ?_ n32 _ _ _ hq)
              · intro x33 M34 hq
                refine G_lload_n C 0 d_Mo_digest_300 rfl rfl ?_
                exact G_lret C R d_Mo_digest_301 ⟨_, rfl, hq⟩
theorem d_Nf_holes_0 : decode b_Nf_holes 0 = .ok (.iload_n 1, 1) := by decide +kernel
theorem d_Nf_holes_1 : decode b_Nf_holes 1 = .ok (.ifCond .lt 8, 3) := by decide +kernel
theorem d_Nf_holes_4 : decode b_Nf_holes 4 = .ok (.iload_n 1, 1) := by decide +kernel
theorem d_Nf_holes_5 : decode b_Nf_holes 5 = .ok (.iconst 2, 1) := by decide +kernel
theorem d_Nf_holes_6 : decode b_Nf_holes 6 = .ok (.if_icmp .le 6, 3) := by decide +kernel
theorem d_Nf_holes_9 : decode b_Nf_holes 9 = .ok (.bipush (-2), 2) := by decide +kernel
theorem d_Nf_holes_11 : decode b_Nf_holes 11 = .ok (.ireturn, 1) := by decide +kernel
theorem d_Nf_holes_12 : decode b_Nf_holes 12 = .ok (.aload_n 0, 1) := by decide +kernel
theorem d_Nf_holes_13 : decode b_Nf_holes 13 = .ok (.getfield 10, 3) := by decide +kernel
theorem d_Nf_holes_16 : decode b_Nf_holes 16 = .ok (.invokevirtual 140, 3) := by decide +kernel
theorem d_Nf_holes_19 : decode b_Nf_holes 19 = .ok (.istore_n 2, 1) := by decide +kernel
theorem d_Nf_holes_20 : decode b_Nf_holes 20 = .ok (.iload_n 1, 1) := by decide +kernel
theorem d_Nf_holes_21 : decode b_Nf_holes 21 = .ok (.ifCond .ne 5, 3) := by decide +kernel
theorem d_Nf_holes_24 : decode b_Nf_holes 24 = .ok (.iload_n 2, 1) := by decide +kernel
theorem d_Nf_holes_25 : decode b_Nf_holes 25 = .ok (.ireturn, 1) := by decide +kernel
theorem d_Nf_holes_26 : decode b_Nf_holes 26 = .ok (.aload_n 0, 1) := by decide +kernel
theorem d_Nf_holes_27 : decode b_Nf_holes 27 = .ok (.invokevirtual 144, 3) := by decide +kernel
theorem d_Nf_holes_30 : decode b_Nf_holes 30 = .ok (.istore_n 3, 1) := by decide +kernel
theorem d_Nf_holes_31 : decode b_Nf_holes 31 = .ok (.iload_n 1, 1) := by decide +kernel
theorem d_Nf_holes_32 : decode b_Nf_holes 32 = .ok (.iconst 2, 1) := by decide +kernel
theorem d_Nf_holes_33 : decode b_Nf_holes 33 = .ok (.if_icmp .ne 13, 3) := by decide +kernel
theorem d_Nf_holes_36 : decode b_Nf_holes 36 = .ok (.aload_n 0, 1) := by decide +kernel
theorem d_Nf_holes_37 : decode b_Nf_holes 37 = .ok (.getfield 10, 3) := by decide +kernel
theorem d_Nf_holes_40 : decode b_Nf_holes 40 = .ok (.getfield 81, 3) := by decide +kernel
theorem d_Nf_holes_43 : decode b_Nf_holes 43 = .ok (.iload_n 3, 1) := by decide +kernel
theorem d_Nf_holes_44 : decode b_Nf_holes 44 = .ok (.isub, 1) := by decide +kernel
theorem d_Nf_holes_45 : decode b_Nf_holes 45 = .ok (.ireturn, 1) := by decide +kernel
theorem d_Nf_holes_46 : decode b_Nf_holes 46 = .ok (.aload_n 0, 1) := by decide +kernel
theorem d_Nf_holes_47 : decode b_Nf_holes 47 = .ok (.getfield 10, 3) := by decide +kernel
theorem d_Nf_holes_50 : decode b_Nf_holes 50 = .ok (.getfield 71, 3) := by decide +kernel
theorem d_Nf_holes_53 : decode b_Nf_holes 53 = .ok (.aload_n 0, 1) := by decide +kernel
theorem d_Nf_holes_54 : decode b_Nf_holes 54 = .ok (.getfield 10, 3) := by decide +kernel
theorem d_Nf_holes_57 : decode b_Nf_holes 57 = .ok (.getfield 147, 3) := by decide +kernel
theorem d_Nf_holes_60 : decode b_Nf_holes 60 = .ok (.iload_n 2, 1) := by decide +kernel
theorem d_Nf_holes_61 : decode b_Nf_holes 61 = .ok (.isub, 1) := by decide +kernel
theorem d_Nf_holes_62 : decode b_Nf_holes 62 = .ok (.isub, 1) := by decide +kernel
theorem d_Nf_holes_63 : decode b_Nf_holes 63 = .ok (.iload_n 3, 1) := by decide +kernel
theorem d_Nf_holes_64 : decode b_Nf_holes 64 = .ok (.isub, 1) := by decide +kernel
theorem d_Nf_holes_65 : decode b_Nf_holes 65 = .ok (.ireturn, 1) := by decide +kernel
def q_Nf_holes (a1 : Int32) (M : Mem) (post : Int32 → Mem → Prop) : Prop := (a1 < 0 → post (-2 : Int32) M) ∧ (¬ a1 < 0 → (a1 ≤ (2 : Int32) → q_Net_countParts M (fun r2 M1 => (¬ a1 = 0 → q_Nf_countTurns M1 (fun r4 M3 => (¬ a1 = (2 : Int32) → post (((M3.1 1 1) - ((M3.1 1 0) - r2)) - r4) M3) ∧ (a1 = (2 : Int32) → post ((M3.1 1 2) - r4) M3))) ∧ (a1 = 0 → post r2 M1))) ∧ (¬ a1 ≤ (2 : Int32) → post (-2 : Int32) M))
set_option maxHeartbeats 4000000 in
theorem s_Nf_holes {l : Launch} {κ : Kp} {a1 : Int32} {M : Mem} {post : Int32 → Mem → Prop} (hq : q_Nf_holes a1 M post) : Ct l κ y_Nf_holes b_Nf_holes 4 (some .int) 4 [.ref (κ.1 + 0), .int a1] M (pI post) := by
  refine Ct_of (by decide) (Nat.le_of_ble_eq_true rfl) (fun γ hγ C R => ?_)
  subst hγ
  unfold q_Nf_holes at hq
  show G γ κ 4 (0, 0) (Gq γ κ (pI post)) 0 [(0, .ref (κ.1 + 0)), (1, .int a1)] [] M
  refine G_iload_n C 1 d_Nf_holes_0 rfl rfl ?_
  refine G_if_lt C (tgt := 9) d_Nf_holes_1 (by decide) (fun c => ?_) (fun c => ?_)
  · replace hq := hq.1 c
    refine G_bipush C (v := -2) d_Nf_holes_9 (by decide) ?_
    exact G_iret C R d_Nf_holes_11 ⟨_, rfl, hq⟩
  · replace hq := hq.2 c
    refine G_iload_n C 1 d_Nf_holes_4 rfl rfl ?_
    refine G_iconst C (v := 2) d_Nf_holes_5 (by decide) ?_
    refine G_icmp_le C (tgt := 12) d_Nf_holes_6 (by decide) (fun c => ?_) (fun c => ?_)
    · replace hq := hq.1 c
      refine G_aload_n C 0 d_Nf_holes_12 rfl rfl ?_
      refine Gg_Nf_shape C wd_163 d_Nf_holes_13 ?_
      refine G_callV C (s_Net_countParts hq) v_Net_countParts i_Net_countParts z_Net_countParts wd_341 (by decide) rfl (k := 1) (ci := 3) (by decide) rfl rfl rfl (rest := []) (by rfl) (Nat.le_of_ble_eq_true rfl) d_Nf_holes_16 (ki_ (fun r2 M1 hq => ?_))
      refine G_istore_n C (lv' := [(2, _), (0, _), (1, _)]) d_Nf_holes_19 rfl (by decide) rfl ?_
      refine G_iload_n C 2 d_Nf_holes_20 rfl rfl ?_
      refine G_if_ne C (tgt := 26) d_Nf_holes_21 (by decide) (fun c => ?_) (fun c => ?_)
      · replace hq := hq.1 c
        refine G_aload_n C 1 d_Nf_holes_26 rfl rfl ?_
        refine G_callV C (s_Nf_countTurns hq) v_Nf_countTurns i_Nf_countTurns z_Nf_countTurns wd_345 (by decide) rfl (k := 0) (ci := 6) (by decide) rfl rfl rfl (rest := []) (by rfl) (Nat.le_of_ble_eq_true rfl) d_Nf_holes_27 (ki_ (fun r4 M3 hq => ?_))
        refine G_istore_n C (lv' := [(3, _), (2, _), (0, _), (1, _)]) d_Nf_holes_30 rfl (by decide) rfl ?_
        refine G_iload_n C 3 d_Nf_holes_31 rfl rfl ?_
        refine G_iconst C (v := 2) d_Nf_holes_32 (by decide) ?_
        refine G_icmp_ne C (tgt := 46) d_Nf_holes_33 (by decide) (fun c => ?_) (fun c => ?_)
        · replace hq := hq.1 c
          refine G_aload_n C 2 d_Nf_holes_46 rfl rfl ?_
          refine Gg_Nf_shape C wd_163 d_Nf_holes_47 ?_
          refine Gg_Net_edges C wd_31 d_Nf_holes_50 ?_
          refine G_aload_n C 2 d_Nf_holes_53 rfl rfl ?_
          refine Gg_Nf_shape C wd_163 d_Nf_holes_54 ?_
          refine Gg_Net_points C wd_27 d_Nf_holes_57 ?_
          refine G_iload_n C 1 d_Nf_holes_60 rfl rfl ?_
          refine G_isub C d_Nf_holes_61 ?_
          refine G_isub C d_Nf_holes_62 ?_
          refine G_iload_n C 0 d_Nf_holes_63 rfl rfl ?_
          refine G_isub C d_Nf_holes_64 ?_
          exact G_iret C R d_Nf_holes_65 ⟨_, rfl, hq⟩
        · replace hq := hq.2 c
          refine G_aload_n C 2 d_Nf_holes_36 rfl rfl ?_
          refine Gg_Nf_shape C wd_163 d_Nf_holes_37 ?_
          refine Gg_Net_plates C wd_33 d_Nf_holes_40 ?_
          refine G_iload_n C 0 d_Nf_holes_43 rfl rfl ?_
          refine G_isub C d_Nf_holes_44 ?_
          exact G_iret C R d_Nf_holes_45 ⟨_, rfl, hq⟩
      · replace hq := hq.2 c
        refine G_iload_n C 0 d_Nf_holes_24 rfl rfl ?_
        exact G_iret C R d_Nf_holes_25 ⟨_, rfl, hq⟩
    · replace hq := hq.2 c
      refine G_bipush C (v := -2) d_Nf_holes_9 (by decide) ?_
      exact G_iret C R d_Nf_holes_11 ⟨_, rfl, hq⟩
