theorem d_Mo_face_0 : decode b_Mo_face 0 = .ok (.aload_n 0, 1) := by decide +kernel
theorem d_Mo_face_1 : decode b_Mo_face 1 = .ok (.iload_n 1, 1) := by decide +kernel
theorem d_Mo_face_2 : decode b_Mo_face 2 = .ok (.invokevirtual 92, 3) := by decide +kernel
theorem d_Mo_face_5 : decode b_Mo_face 5 = .ok (.ifCond .eq 21, 3) := by decide +kernel
theorem d_Mo_face_8 : decode b_Mo_face 8 = .ok (.aload_n 0, 1) := by decide +kernel
theorem d_Mo_face_9 : decode b_Mo_face 9 = .ok (.iload_n 3, 1) := by decide +kernel
theorem d_Mo_face_10 : decode b_Mo_face 10 = .ok (.invokevirtual 92, 3) := by decide +kernel
theorem d_Mo_face_13 : decode b_Mo_face 13 = .ok (.ifCond .eq 13, 3) := by decide +kernel
theorem d_Mo_face_16 : decode b_Mo_face 16 = .ok (.iload_n 2, 1) := by decide +kernel
theorem d_Mo_face_17 : decode b_Mo_face 17 = .ok (.iload_n 1, 1) := by decide +kernel
theorem d_Mo_face_18 : decode b_Mo_face 18 = .ok (.if_icmp .le 8, 3) := by decide +kernel
theorem d_Mo_face_21 : decode b_Mo_face 21 = .ok (.iload_n 3, 1) := by decide +kernel
theorem d_Mo_face_22 : decode b_Mo_face 22 = .ok (.iload_n 2, 1) := by decide +kernel
theorem d_Mo_face_23 : decode b_Mo_face 23 = .ok (.if_icmp .gt 6, 3) := by decide +kernel
theorem d_Mo_face_26 : decode b_Mo_face 26 = .ok (.bipush (-2), 2) := by decide +kernel
theorem d_Mo_face_28 : decode b_Mo_face 28 = .ok (.ireturn, 1) := by decide +kernel
theorem d_Mo_face_29 : decode b_Mo_face 29 = .ok (.aload_n 0, 1) := by decide +kernel
theorem d_Mo_face_30 : decode b_Mo_face 30 = .ok (.iload_n 1, 1) := by decide +kernel
theorem d_Mo_face_31 : decode b_Mo_face 31 = .ok (.iload_n 2, 1) := by decide +kernel
theorem d_Mo_face_32 : decode b_Mo_face 32 = .ok (.invokevirtual 96, 3) := by decide +kernel
theorem d_Mo_face_35 : decode b_Mo_face 35 = .ok (.iconst (-1), 1) := by decide +kernel
theorem d_Mo_face_36 : decode b_Mo_face 36 = .ok (.if_icmp .eq 23, 3) := by decide +kernel
theorem d_Mo_face_39 : decode b_Mo_face 39 = .ok (.aload_n 0, 1) := by decide +kernel
theorem d_Mo_face_40 : decode b_Mo_face 40 = .ok (.iload_n 2, 1) := by decide +kernel
theorem d_Mo_face_41 : decode b_Mo_face 41 = .ok (.iload_n 3, 1) := by decide +kernel
theorem d_Mo_face_42 : decode b_Mo_face 42 = .ok (.invokevirtual 96, 3) := by decide +kernel
theorem d_Mo_face_45 : decode b_Mo_face 45 = .ok (.iconst (-1), 1) := by decide +kernel
theorem d_Mo_face_46 : decode b_Mo_face 46 = .ok (.if_icmp .eq 13, 3) := by decide +kernel
theorem d_Mo_face_49 : decode b_Mo_face 49 = .ok (.aload_n 0, 1) := by decide +kernel
theorem d_Mo_face_50 : decode b_Mo_face 50 = .ok (.iload_n 1, 1) := by decide +kernel
theorem d_Mo_face_51 : decode b_Mo_face 51 = .ok (.iload_n 3, 1) := by decide +kernel
theorem d_Mo_face_52 : decode b_Mo_face 52 = .ok (.invokevirtual 96, 3) := by decide +kernel
theorem d_Mo_face_55 : decode b_Mo_face 55 = .ok (.iconst (-1), 1) := by decide +kernel
theorem d_Mo_face_56 : decode b_Mo_face 56 = .ok (.if_icmp .ne 7, 3) := by decide +kernel
theorem d_Mo_face_59 : decode b_Mo_face 59 = .ok (.iconst 1, 1) := by decide +kernel
theorem d_Mo_face_60 : decode b_Mo_face 60 = .ok (.goto 4, 3) := by decide +kernel
theorem d_Mo_face_63 : decode b_Mo_face 63 = .ok (.iconst 0, 1) := by decide +kernel
theorem d_Mo_face_64 : decode b_Mo_face 64 = .ok (.istore 4, 2) := by decide +kernel
theorem d_Mo_face_66 : decode b_Mo_face 66 = .ok (.iconst 0, 1) := by decide +kernel
theorem d_Mo_face_67 : decode b_Mo_face 67 = .ok (.istore 5, 2) := by decide +kernel
theorem d_Mo_face_69 : decode b_Mo_face 69 = .ok (.iload 5, 2) := by decide +kernel
theorem d_Mo_face_71 : decode b_Mo_face 71 = .ok (.aload_n 0, 1) := by decide +kernel
theorem d_Mo_face_72 : decode b_Mo_face 72 = .ok (.getfield 82, 3) := by decide +kernel
theorem d_Mo_face_75 : decode b_Mo_face 75 = .ok (.if_icmp .ge 54, 3) := by decide +kernel
theorem d_Mo_face_78 : decode b_Mo_face 78 = .ok (.iload 4, 2) := by decide +kernel
theorem d_Mo_face_80 : decode b_Mo_face 80 = .ok (.ifCond .ne 36, 3) := by decide +kernel
theorem d_Mo_face_83 : decode b_Mo_face 83 = .ok (.aload_n 0, 1) := by decide +kernel
theorem d_Mo_face_84 : decode b_Mo_face 84 = .ok (.getfield 20, 3) := by decide +kernel
theorem d_Mo_face_87 : decode b_Mo_face 87 = .ok (.iload 5, 2) := by decide +kernel
theorem d_Mo_face_89 : decode b_Mo_face 89 = .ok (.iaload, 1) := by decide +kernel
theorem d_Mo_face_90 : decode b_Mo_face 90 = .ok (.iload_n 1, 1) := by decide +kernel
theorem d_Mo_face_91 : decode b_Mo_face 91 = .ok (.if_icmp .ne 29, 3) := by decide +kernel
theorem d_Mo_face_94 : decode b_Mo_face 94 = .ok (.aload_n 0, 1) := by decide +kernel
theorem d_Mo_face_95 : decode b_Mo_face 95 = .ok (.getfield 23, 3) := by decide +kernel
theorem d_Mo_face_98 : decode b_Mo_face 98 = .ok (.iload 5, 2) := by decide +kernel
theorem d_Mo_face_100 : decode b_Mo_face 100 = .ok (.iaload, 1) := by decide +kernel
theorem d_Mo_face_101 : decode b_Mo_face 101 = .ok (.iload_n 2, 1) := by decide +kernel
theorem d_Mo_face_102 : decode b_Mo_face 102 = .ok (.if_icmp .ne 18, 3) := by decide +kernel
theorem d_Mo_face_105 : decode b_Mo_face 105 = .ok (.aload_n 0, 1) := by decide +kernel
theorem d_Mo_face_106 : decode b_Mo_face 106 = .ok (.getfield 26, 3) := by decide +kernel
theorem d_Mo_face_109 : decode b_Mo_face 109 = .ok (.iload 5, 2) := by decide +kernel
theorem d_Mo_face_111 : decode b_Mo_face 111 = .ok (.iaload, 1) := by decide +kernel
theorem d_Mo_face_112 : decode b_Mo_face 112 = .ok (.iload_n 3, 1) := by decide +kernel
theorem d_Mo_face_113 : decode b_Mo_face 113 = .ok (.if_icmp .ne 7, 3) := by decide +kernel
theorem d_Mo_face_116 : decode b_Mo_face 116 = .ok (.iconst 1, 1) := by decide +kernel
theorem d_Mo_face_117 : decode b_Mo_face 117 = .ok (.goto 4, 3) := by decide +kernel
theorem d_Mo_face_120 : decode b_Mo_face 120 = .ok (.iconst 0, 1) := by decide +kernel
theorem d_Mo_face_121 : decode b_Mo_face 121 = .ok (.istore 4, 2) := by decide +kernel
theorem d_Mo_face_123 : decode b_Mo_face 123 = .ok (.iinc 5 1, 3) := by decide +kernel
theorem d_Mo_face_126 : decode b_Mo_face 126 = .ok (.goto (-57), 3) := by decide +kernel
theorem d_Mo_face_129 : decode b_Mo_face 129 = .ok (.iload 4, 2) := by decide +kernel
theorem d_Mo_face_131 : decode b_Mo_face 131 = .ok (.ifCond .eq 6, 3) := by decide +kernel
theorem d_Mo_face_134 : decode b_Mo_face 134 = .ok (.bipush (-3), 2) := by decide +kernel
theorem d_Mo_face_136 : decode b_Mo_face 136 = .ok (.ireturn, 1) := by decide +kernel
theorem d_Mo_face_137 : decode b_Mo_face 137 = .ok (.aload_n 0, 1) := by decide +kernel
theorem d_Mo_face_138 : decode b_Mo_face 138 = .ok (.getfield 82, 3) := by decide +kernel
theorem d_Mo_face_141 : decode b_Mo_face 141 = .ok (.bipush 10, 2) := by decide +kernel
theorem d_Mo_face_143 : decode b_Mo_face 143 = .ok (.if_icmp .ne 6, 3) := by decide +kernel
theorem d_Mo_face_146 : decode b_Mo_face 146 = .ok (.bipush (-4), 2) := by decide +kernel
theorem d_Mo_face_148 : decode b_Mo_face 148 = .ok (.ireturn, 1) := by decide +kernel
theorem d_Mo_face_149 : decode b_Mo_face 149 = .ok (.aload_n 0, 1) := by decide +kernel
theorem d_Mo_face_150 : decode b_Mo_face 150 = .ok (.getfield 20, 3) := by decide +kernel
theorem d_Mo_face_153 : decode b_Mo_face 153 = .ok (.aload_n 0, 1) := by decide +kernel
theorem d_Mo_face_154 : decode b_Mo_face 154 = .ok (.getfield 82, 3) := by decide +kernel
theorem d_Mo_face_157 : decode b_Mo_face 157 = .ok (.iload_n 1, 1) := by decide +kernel
theorem d_Mo_face_158 : decode b_Mo_face 158 = .ok (.iastore, 1) := by decide +kernel
theorem d_Mo_face_159 : decode b_Mo_face 159 = .ok (.aload_n 0, 1) := by decide +kernel
theorem d_Mo_face_160 : decode b_Mo_face 160 = .ok (.getfield 23, 3) := by decide +kernel
theorem d_Mo_face_163 : decode b_Mo_face 163 = .ok (.aload_n 0, 1) := by decide +kernel
theorem d_Mo_face_164 : decode b_Mo_face 164 = .ok (.getfield 82, 3) := by decide +kernel
theorem d_Mo_face_167 : decode b_Mo_face 167 = .ok (.iload_n 2, 1) := by decide +kernel
theorem d_Mo_face_168 : decode b_Mo_face 168 = .ok (.iastore, 1) := by decide +kernel
theorem d_Mo_face_169 : decode b_Mo_face 169 = .ok (.aload_n 0, 1) := by decide +kernel
theorem d_Mo_face_170 : decode b_Mo_face 170 = .ok (.getfield 26, 3) := by decide +kernel
theorem d_Mo_face_173 : decode b_Mo_face 173 = .ok (.aload_n 0, 1) := by decide +kernel
theorem d_Mo_face_174 : decode b_Mo_face 174 = .ok (.getfield 82, 3) := by decide +kernel
theorem d_Mo_face_177 : decode b_Mo_face 177 = .ok (.iload_n 3, 1) := by decide +kernel
theorem d_Mo_face_178 : decode b_Mo_face 178 = .ok (.iastore, 1) := by decide +kernel
theorem d_Mo_face_179 : decode b_Mo_face 179 = .ok (.aload_n 0, 1) := by decide +kernel
theorem d_Mo_face_180 : decode b_Mo_face 180 = .ok (.dup, 1) := by decide +kernel
theorem d_Mo_face_181 : decode b_Mo_face 181 = .ok (.getfield 82, 3) := by decide +kernel
theorem d_Mo_face_184 : decode b_Mo_face 184 = .ok (.iconst 1, 1) := by decide +kernel
theorem d_Mo_face_185 : decode b_Mo_face 185 = .ok (.iadd, 1) := by decide +kernel
theorem d_Mo_face_186 : decode b_Mo_face 186 = .ok (.putfield 82, 3) := by decide +kernel
theorem d_Mo_face_189 : decode b_Mo_face 189 = .ok (.aload_n 0, 1) := by decide +kernel
theorem d_Mo_face_190 : decode b_Mo_face 190 = .ok (.getfield 82, 3) := by decide +kernel
theorem d_Mo_face_193 : decode b_Mo_face 193 = .ok (.iconst 1, 1) := by decide +kernel
theorem d_Mo_face_194 : decode b_Mo_face 194 = .ok (.isub, 1) := by decide +kernel
theorem d_Mo_face_195 : decode b_Mo_face 195 = .ok (.ireturn, 1) := by decide +kernel
def q_Mo_face_L69 (kx129 : Int32 → Int32 → Int32 → Int32 → Mem → Prop) (post : Int32 → Mem → Prop) : Nat → Int32 → Int32 → Int32 → Int32 → Int32 → Mem → Prop
  | 0, _, _, _, _, _, _ => False
  | n + 1, x1, x2, x3, x4, x5, M => ((M.1 56 2) ≤ x5 → kx129 x1 x2 x3 x4 M) ∧ (¬ (M.1 56 2) ≤ x5 → (¬ x4 = 0 → q_Mo_face_L69 kx129 post n x1 x2 x3 (1 : Int32) (x5 + 1) M) ∧ (x4 = 0 → vp_in x5 10 ∧ ((¬ (M.1 59 x5.toNatClampNeg) = x1 → q_Mo_face_L69 kx129 post n x1 x2 x3 (0 : Int32) (x5 + 1) M) ∧ ((M.1 59 x5.toNatClampNeg) = x1 → vp_in x5 10 ∧ ((¬ (M.1 60 x5.toNatClampNeg) = x2 → q_Mo_face_L69 kx129 post n x1 x2 x3 (0 : Int32) (x5 + 1) M) ∧ ((M.1 60 x5.toNatClampNeg) = x2 → vp_in x5 10 ∧ ((¬ (M.1 61 x5.toNatClampNeg) = x3 → q_Mo_face_L69 kx129 post n x1 x2 x3 (0 : Int32) (x5 + 1) M) ∧ ((M.1 61 x5.toNatClampNeg) = x3 → q_Mo_face_L69 kx129 post n x1 x2 x3 (1 : Int32) (x5 + 1) M))))))))
set_option maxHeartbeats 4000000 in
theorem s_Mo_face_L69 {γ : Gm} {κ : Kp} {post : Int32 → Mem → Prop} {kx129 : Int32 → Int32 → Int32 → Int32 → Mem → Prop} (C : Cx γ κ "NetFormsModel" b_Mo_face 6 2 (0, 0)) (R : Rt γ (some .int)) (hx129 : ∀ y1 y2 y3 y4 M', kx129 y1 y2 y3 y4 M' → G γ κ 6 (0, 0) (Gq γ κ (pI post)) 129 [(0, .ref (κ.1 + 56)), (1, .int y1), (2, .int y2), (3, .int y3), (4, .int y4)] [] M') : ∀ (n : Nat) (x1 : Int32) (x2 : Int32) (x3 : Int32) (x4 : Int32) (x5 : Int32) (M : Mem), q_Mo_face_L69 kx129 post n x1 x2 x3 x4 x5 M → G γ κ 6 (0, 0) (Gq γ κ (pI post)) 69 [(0, .ref (κ.1 + 56)), (1, .int x1), (2, .int x2), (3, .int x3), (4, .int x4), (5, .int x5)] [] M := by
  intro n
  induction n with
  | zero => intro x1 x2 x3 x4 x5 M hq; exact hq.elim
  | succ n ih =>
    intro x1 x2 x3 x4 x5 M hq
    unfold q_Mo_face_L69 at hq
    refine G_iload C 5 d_Mo_face_69 rfl ?_
    refine G_aload_n C 0 d_Mo_face_71 rfl rfl ?_
    refine Gg_Mo_faces C wd_523 d_Mo_face_72 ?_
    refine G_icmp_ge C (tgt := 129) d_Mo_face_75 (by decide) (fun c => ?_) (fun c => ?_)
    · replace hq := hq.1 c
      exact G_sub [0, 1, 2, 3, 4] (by rfl) (hx129 _ _ _ _ _ hq)
    · replace hq := hq.2 c
      refine G_iload C 4 d_Mo_face_78 rfl ?_
      refine G_if_ne C (tgt := 116) d_Mo_face_80 (by decide) (fun c => ?_) (fun c => ?_)
      · replace hq := hq.1 c
        refine G_iconst C (v := 1) d_Mo_face_116 (by decide) ?_
        refine G_goto C (tgt := 121) d_Mo_face_117 (by decide) ?_
        refine G_istore C (lv' := [(4, _), (0, _), (1, _), (2, _), (3, _), (5, _)]) d_Mo_face_121 (by decide) rfl ?_
        refine G_iinc C (v := _ + 1) (lv' := [(5, _), (4, _), (0, _), (1, _), (2, _), (3, _)]) 5 d_Mo_face_123 rfl rfl (by decide) rfl ?_
        refine G_goto C (tgt := 69) d_Mo_face_126 (by decide) ?_
        exact G_sub [2, 3, 4, 5, 1, 0] (by rfl) (ih _ _ _ _ _ _ hq)
      · replace hq := hq.2 c
        refine G_aload_n C 0 d_Mo_face_83 rfl rfl ?_
        refine Gg_Mo_first C wd_526 d_Mo_face_84 ?_
        refine G_iload C 5 d_Mo_face_87 rfl ?_
        refine G_iaload C (k := 59) (by decide) (fun _ _ => rfl) hq.1 d_Mo_face_89 ?_
        replace hq := hq.2
        refine G_iload_n C 1 d_Mo_face_90 rfl rfl ?_
        refine G_icmp_ne C (tgt := 120) d_Mo_face_91 (by decide) (fun c => ?_) (fun c => ?_)
        · replace hq := hq.1 c
          refine G_iconst C (v := 0) d_Mo_face_120 (by decide) ?_
          refine G_istore C (lv' := [(4, _), (0, _), (1, _), (2, _), (3, _), (5, _)]) d_Mo_face_121 (by decide) rfl ?_
          refine G_iinc C (v := _ + 1) (lv' := [(5, _), (4, _), (0, _), (1, _), (2, _), (3, _)]) 5 d_Mo_face_123 rfl rfl (by decide) rfl ?_
          refine G_goto C (tgt := 69) d_Mo_face_126 (by decide) ?_
          exact G_sub [2, 3, 4, 5, 1, 0] (by rfl) (ih _ _ _ _ _ _ hq)
        · replace hq := hq.2 c
          refine G_aload_n C 0 d_Mo_face_94 rfl rfl ?_
          refine Gg_Mo_second C wd_527 d_Mo_face_95 ?_
          refine G_iload C 5 d_Mo_face_98 rfl ?_
          refine G_iaload C (k := 60) (by decide) (fun _ _ => rfl) hq.1 d_Mo_face_100 ?_
          replace hq := hq.2
          refine G_iload_n C 2 d_Mo_face_101 rfl rfl ?_
          refine G_icmp_ne C (tgt := 120) d_Mo_face_102 (by decide) (fun c => ?_) (fun c => ?_)
          · replace hq := hq.1 c
            refine G_iconst C (v := 0) d_Mo_face_120 (by decide) ?_
            refine G_istore C (lv' := [(4, _), (0, _), (1, _), (2, _), (3, _), (5, _)]) d_Mo_face_121 (by decide) rfl ?_
            refine G_iinc C (v := _ + 1) (lv' := [(5, _), (4, _), (0, _), (1, _), (2, _), (3, _)]) 5 d_Mo_face_123 rfl rfl (by decide) rfl ?_
            refine G_goto C (tgt := 69) d_Mo_face_126 (by decide) ?_
            exact G_sub [2, 3, 4, 5, 1, 0] (by rfl) (ih _ _ _ _ _ _ hq)
          · replace hq := hq.2 c
            refine G_aload_n C 0 d_Mo_face_105 rfl rfl ?_
            refine Gg_Mo_third C wd_528 d_Mo_face_106 ?_
            refine G_iload C 5 d_Mo_face_109 rfl ?_
            refine G_iaload C (k := 61) (by decide) (fun _ _ => rfl) hq.1 d_Mo_face_111 ?_
            replace hq := hq.2
            refine G_iload_n C 3 d_Mo_face_112 rfl rfl ?_
            refine G_icmp_ne C (tgt := 120) d_Mo_face_113 (by decide) (fun c => ?_) (fun c => ?_)
            · replace hq := hq.1 c
              refine G_iconst C (v := 0) d_Mo_face_120 (by decide) ?_
              refine G_istore C (lv' := [(4, _), (0, _), (1, _), (2, _), (3, _), (5, _)]) d_Mo_face_121 (by decide) rfl ?_
              refine G_iinc C (v := _ + 1) (lv' := [(5, _), (4, _), (0, _), (1, _), (2, _), (3, _)]) 5 d_Mo_face_123 rfl rfl (by decide) rfl ?_
              refine G_goto C (tgt := 69) d_Mo_face_126 (by decide) ?_
              exact G_sub [2, 3, 4, 5, 1, 0] (by rfl) (ih _ _ _ _ _ _ hq)
            · replace hq := hq.2 c
              refine G_iconst C (v := 1) d_Mo_face_116 (by decide) ?_
              refine G_goto C (tgt := 121) d_Mo_face_117 (by decide) ?_
              refine G_istore C (lv' := [(4, _), (0, _), (1, _), (2, _), (3, _), (5, _)]) d_Mo_face_121 (by decide) rfl ?_
              refine G_iinc C (v := _ + 1) (lv' := [(5, _), (4, _), (0, _), (1, _), (2, _), (3, _)]) 5 d_Mo_face_123 rfl rfl (by decide) rfl ?_
              refine G_goto C (tgt := 69) d_Mo_face_126 (by decide) ?_
              exact G_sub [2, 3, 4, 5, 1, 0] (by rfl) (ih _ _ _ _ _ _ hq)
def q_Mo_face (a1 : Int32) (a2 : Int32) (a3 : Int32) (M : Mem) (post : Int32 → Mem → Prop) : Prop := q_Mo_isPoint a1 M (fun r2 M1 => (r2 = 0 → post (-2 : Int32) M1) ∧ (¬ r2 = 0 → q_Mo_isPoint a3 M1 (fun r4 M3 => (r4 = 0 → post (-2 : Int32) M3) ∧ (¬ r4 = 0 → (a2 ≤ a1 → post (-2 : Int32) M3) ∧ (¬ a2 ≤ a1 → (a2 < a3 → q_Mo_edgeOf a1 a2 M3 (fun r6 M5 => (r6 = (-1 : Int32) → ∃ n7, q_Mo_face_L69 (fun x8 x9 x10 x11 M12 => (x11 = 0 → (¬ (M12.1 56 2) = (10 : Int32) → vp_in (M12.1 56 2) 10 ∧ (∀ M13, M13 = wI M12 59 (M12.1 56 2).toNatClampNeg x8 → vp_in (M13.1 56 2) 10 ∧ (∀ M14, M14 = wI M13 60 (M13.1 56 2).toNatClampNeg x9 → vp_in (M14.1 56 2) 10 ∧ (∀ M15, M15 = wI M14 61 (M14.1 56 2).toNatClampNeg x10 → ∀ M16, M16 = wI M15 56 2 ((M15.1 56 2) + (1 : Int32)) → post ((M16.1 56 2) - (1 : Int32)) M16)))) ∧ ((M12.1 56 2) = (10 : Int32) → post (-4 : Int32) M12)) ∧ (¬ x11 = 0 → post (-3 : Int32) M12)) post n7 a1 a2 a3 (1 : Int32) (0 : Int32) M5) ∧ (¬ r6 = (-1 : Int32) → q_Mo_edgeOf a2 a3 M5 (fun r18 M17 => (r18 = (-1 : Int32) → ∃ n19, q_Mo_face_L69 (fun x20 x21 x22 x23 M24 => (x23 = 0 → (¬ (M24.1 56 2) = (10 : Int32) → vp_in (M24.1 56 2) 10 ∧ (∀ M25, M25 = wI M24 59 (M24.1 56 2).toNatClampNeg x20 → vp_in (M25.1 56 2) 10 ∧ (∀ M26, M26 = wI M25 60 (M25.1 56 2).toNatClampNeg x21 → vp_in (M26.1 56 2) 10 ∧ (∀ M27, M27 = wI M26 61 (M26.1 56 2).toNatClampNeg x22 → ∀ M28, M28 = wI M27 56 2 ((M27.1 56 2) + (1 : Int32)) → post ((M28.1 56 2) - (1 : Int32)) M28)))) ∧ ((M24.1 56 2) = (10 : Int32) → post (-4 : Int32) M24)) ∧ (¬ x23 = 0 → post (-3 : Int32) M24)) post n19 a1 a2 a3 (1 : Int32) (0 : Int32) M17) ∧ (¬ r18 = (-1 : Int32) → q_Mo_edgeOf a1 a3 M17 (fun r30 M29 => (¬ r30 = (-1 : Int32) → ∃ n31, q_Mo_face_L69 (fun x32 x33 x34 x35 M36 => (x35 = 0 → (¬ (M36.1 56 2) = (10 : Int32) → vp_in (M36.1 56 2) 10 ∧ (∀ M37, M37 = wI M36 59 (M36.1 56 2).toNatClampNeg x32 → vp_in (M37.1 56 2) 10 ∧ (∀ M38, M38 = wI M37 60 (M37.1 56 2).toNatClampNeg x33 → vp_in (M38.1 56 2) 10 ∧ (∀ M39, M39 = wI M38 61 (M38.1 56 2).toNatClampNeg x34 → ∀ M40, M40 = wI M39 56 2 ((M39.1 56 2) + (1 : Int32)) → post ((M40.1 56 2) - (1 : Int32)) M40)))) ∧ ((M36.1 56 2) = (10 : Int32) → post (-4 : Int32) M36)) ∧ (¬ x35 = 0 → post (-3 : Int32) M36)) post n31 a1 a2 a3 (0 : Int32) (0 : Int32) M29) ∧ (r30 = (-1 : Int32) → ∃ n41, q_Mo_face_L69 (fun x42 x43 x44 x45 M46 => (x45 = 0 → (¬ (M46.1 56 2) = (10 : Int32) → vp_in (M46.1 56 2) 10 ∧ (∀ M47, M47 = wI M46 59 (M46.1 56 2).toNatClampNeg x42 → vp_in (M47.1 56 2) 10 ∧ (∀ M48, M48 = wI M47 60 (M47.1 56 2).toNatClampNeg x43 → vp_in (M48.1 56 2) 10 ∧ (∀ M49, M49 = wI M48 61 (M48.1 56 2).toNatClampNeg x44 → ∀ M50, M50 = wI M49 56 2 ((M49.1 56 2) + (1 : Int32)) → post ((M50.1 56 2) - (1 : Int32)) M50)))) ∧ ((M46.1 56 2) = (10 : Int32) → post (-4 : Int32) M46)) ∧ (¬ x45 = 0 → post (-3 : Int32) M46)) post n41 a1 a2 a3 (1 : Int32) (0 : Int32) M29))))))) ∧ (¬ a2 < a3 → post (-2 : Int32) M3))))))
set_option maxHeartbeats 4000000 in
theorem s_Mo_face {l : Launch} {κ : Kp} {a1 : Int32} {a2 : Int32} {a3 : Int32} {M : Mem} {post : Int32 → Mem → Prop} (hq : q_Mo_face a1 a2 a3 M post) : Ct l κ y_Mo_face b_Mo_face 6 (some .int) 2 [.ref (κ.1 + 56), .int a1, .int a2, .int a3] M (pI post) := by
  refine Ct_of (by decide) (Nat.le_of_ble_eq_true rfl) (fun γ hγ C R => ?_)
  subst hγ
  unfold q_Mo_face at hq
  show G γ κ 6 (0, 0) (Gq γ κ (pI post)) 0 [(0, .ref (κ.1 + 56)), (1, .int a1), (2, .int a2), (3, .int a3)] [] M
  refine G_aload_n C 0 d_Mo_face_0 rfl rfl ?_
  refine G_iload_n C 1 d_Mo_face_1 rfl rfl ?_
  refine G_callV C (s_Mo_isPoint hq) v_Mo_isPoint i_Mo_isPoint z_Mo_isPoint wd_616 (by decide) rfl (k := 56) (ci := 7) (by decide) rfl rfl rfl (rest := []) (by rfl) (Nat.le_of_ble_eq_true rfl) d_Mo_face_2 (ki_ (fun r2 M1 hq => ?_))
  refine G_if_eq C (tgt := 26) d_Mo_face_5 (by decide) (fun c => ?_) (fun c => ?_)
  · replace hq := hq.1 c
    refine G_bipush C (v := -2) d_Mo_face_26 (by decide) ?_
    exact G_iret C R d_Mo_face_28 ⟨_, rfl, hq⟩
  · replace hq := hq.2 c
    refine G_aload_n C 0 d_Mo_face_8 rfl rfl ?_
    refine G_iload_n C 3 d_Mo_face_9 rfl rfl ?_
    refine G_callV C (s_Mo_isPoint hq) v_Mo_isPoint i_Mo_isPoint z_Mo_isPoint wd_616 (by decide) rfl (k := 56) (ci := 7) (by decide) rfl rfl rfl (rest := []) (by rfl) (Nat.le_of_ble_eq_true rfl) d_Mo_face_10 (ki_ (fun r4 M3 hq => ?_))
    refine G_if_eq C (tgt := 26) d_Mo_face_13 (by decide) (fun c => ?_) (fun c => ?_)
    · replace hq := hq.1 c
      refine G_bipush C (v := -2) d_Mo_face_26 (by decide) ?_
      exact G_iret C R d_Mo_face_28 ⟨_, rfl, hq⟩
    · replace hq := hq.2 c
      refine G_iload_n C 2 d_Mo_face_16 rfl rfl ?_
      refine G_iload_n C 1 d_Mo_face_17 rfl rfl ?_
      refine G_icmp_le C (tgt := 26) d_Mo_face_18 (by decide) (fun c => ?_) (fun c => ?_)
      · replace hq := hq.1 c
        refine G_bipush C (v := -2) d_Mo_face_26 (by decide) ?_
        exact G_iret C R d_Mo_face_28 ⟨_, rfl, hq⟩
      · replace hq := hq.2 c
        refine G_iload_n C 3 d_Mo_face_21 rfl rfl ?_
        refine G_iload_n C 2 d_Mo_face_22 rfl rfl ?_
        refine G_icmp_gt C (tgt := 29) d_Mo_face_23 (by decide) (fun c => ?_) (fun c => ?_)
        · replace hq := hq.1 c
          refine G_aload_n C 0 d_Mo_face_29 rfl rfl ?_
          refine G_iload_n C 1 d_Mo_face_30 rfl rfl ?_
          refine G_iload_n C 2 d_Mo_face_31 rfl rfl ?_
          refine G_callV C (s_Mo_edgeOf hq) v_Mo_edgeOf i_Mo_edgeOf z_Mo_edgeOf wd_620 (by decide) rfl (k := 56) (ci := 7) (by decide) rfl rfl rfl (rest := []) (by rfl) (Nat.le_of_ble_eq_true rfl) d_Mo_face_32 (ki_ (fun r6 M5 hq => ?_))
          refine G_iconst C (v := -1) d_Mo_face_35 (by decide) ?_
          refine G_icmp_eq C (tgt := 59) d_Mo_face_36 (by decide) (fun c => ?_) (fun c => ?_)
          · replace hq := hq.1 c
            refine G_iconst C (v := 1) d_Mo_face_59 (by decide) ?_
            refine G_goto C (tgt := 64) d_Mo_face_60 (by decide) ?_
            refine G_istore C (lv' := [(4, _), (0, _), (1, _), (2, _), (3, _)]) d_Mo_face_64 (by decide) rfl ?_
            refine G_iconst C (v := 0) d_Mo_face_66 (by decide) ?_
            refine G_istore C (lv' := [(5, _), (4, _), (0, _), (1, _), (2, _), (3, _)]) d_Mo_face_67 (by decide) rfl ?_
            obtain ⟨n7, hq⟩ := hq
            refine G_sub [2, 3, 4, 5, 1, 0] (by rfl) (s_Mo_face_L69 C R ?_ n7 _ _ _ _ _ _ hq)
            · intro x8 x9 x10 x11 M12 hq
              refine G_iload C 4 d_Mo_face_129 rfl ?_
              refine G_if_eq C (tgt := 137) d_Mo_face_131 (by decide) (fun c => ?_) (fun c => ?_)
              · replace hq := hq.1 c
                refine G_aload_n C 0 d_Mo_face_137 rfl rfl ?_
                refine Gg_Mo_faces C wd_523 d_Mo_face_138 ?_
                refine G_bipush C (v := 10) d_Mo_face_141 (by decide) ?_
                refine G_icmp_ne C (tgt := 149) d_Mo_face_143 (by decide) (fun c => ?_) (fun c => ?_)
                · replace hq := hq.1 c
                  refine G_aload_n C 0 d_Mo_face_149 rfl rfl ?_
                  refine Gg_Mo_first C wd_526 d_Mo_face_150 ?_
                  refine G_aload_n C 0 d_Mo_face_153 rfl rfl ?_
                  refine Gg_Mo_faces C wd_523 d_Mo_face_154 ?_
                  refine G_iload_n C 1 d_Mo_face_157 rfl rfl ?_
                  refine G_iastore C (k := 59) (by decide) (fun _ _ => rfl) hq.1 d_Mo_face_158 ?_
                  replace hq := hq.2 _ rfl
                  refine G_aload_n C 0 d_Mo_face_159 rfl rfl ?_
                  refine Gg_Mo_second C wd_527 d_Mo_face_160 ?_
                  refine G_aload_n C 0 d_Mo_face_163 rfl rfl ?_
                  refine Gg_Mo_faces C wd_523 d_Mo_face_164 ?_
                  refine G_iload_n C 2 d_Mo_face_167 rfl rfl ?_
                  refine G_iastore C (k := 60) (by decide) (fun _ _ => rfl) hq.1 d_Mo_face_168 ?_
                  replace hq := hq.2 _ rfl
                  refine G_aload_n C 0 d_Mo_face_169 rfl rfl ?_
                  refine Gg_Mo_third C wd_528 d_Mo_face_170 ?_
                  refine G_aload_n C 0 d_Mo_face_173 rfl rfl ?_
                  refine Gg_Mo_faces C wd_523 d_Mo_face_174 ?_
                  refine G_iload_n C 3 d_Mo_face_177 rfl rfl ?_
                  refine G_iastore C (k := 61) (by decide) (fun _ _ => rfl) hq.1 d_Mo_face_178 ?_
                  replace hq := hq.2 _ rfl
                  refine G_aload_n C 0 d_Mo_face_179 rfl rfl ?_
                  refine G_dup C d_Mo_face_180 rfl ?_
                  refine Gg_Mo_faces C wd_523 d_Mo_face_181 ?_
                  refine G_iconst C (v := 1) d_Mo_face_184 (by decide) ?_
                  refine G_iadd C d_Mo_face_185 ?_
                  refine Gp_Mo_faces C wd_523 d_Mo_face_186 ?_
                  replace hq := hq _ rfl
                  refine G_aload_n C 0 d_Mo_face_189 rfl rfl ?_
                  refine Gg_Mo_faces C wd_523 d_Mo_face_190 ?_
                  refine G_iconst C (v := 1) d_Mo_face_193 (by decide) ?_
                  refine G_isub C d_Mo_face_194 ?_
                  exact G_iret C R d_Mo_face_195 ⟨_, rfl, hq⟩
                · replace hq := hq.2 c
                  refine G_bipush C (v := -4) d_Mo_face_146 (by decide) ?_
                  exact G_iret C R d_Mo_face_148 ⟨_, rfl, hq⟩
              · replace hq := hq.2 c
                refine G_bipush C (v := -3) d_Mo_face_134 (by decide) ?_
                exact G_iret C R d_Mo_face_136 ⟨_, rfl, hq⟩
          · replace hq := hq.2 c
            refine G_aload_n C 0 d_Mo_face_39 rfl rfl ?_
            refine G_iload_n C 2 d_Mo_face_40 rfl rfl ?_
            refine G_iload_n C 3 d_Mo_face_41 rfl rfl ?_
            refine G_callV C (s_Mo_edgeOf hq) v_Mo_edgeOf i_Mo_edgeOf z_Mo_edgeOf wd_620 (by decide) rfl (k := 56) (ci := 7) (by decide) rfl rfl rfl (rest := []) (by rfl) (Nat.le_of_ble_eq_true rfl) d_Mo_face_42 (ki_ (fun r18 M17 hq => ?_))
            refine G_iconst C (v := -1) d_Mo_face_45 (by decide) ?_
            refine G_icmp_eq C (tgt := 59) d_Mo_face_46 (by decide) (fun c => ?_) (fun c => ?_)
            · replace hq := hq.1 c
              refine G_iconst C (v := 1) d_Mo_face_59 (by decide) ?_
              refine G_goto C (tgt := 64) d_Mo_face_60 (by decide) ?_
              refine G_istore C (lv' := [(4, _), (0, _), (1, _), (2, _), (3, _)]) d_Mo_face_64 (by decide) rfl ?_
              refine G_iconst C (v := 0) d_Mo_face_66 (by decide) ?_
              refine G_istore C (lv' := [(5, _), (4, _), (0, _), (1, _), (2, _), (3, _)]) d_Mo_face_67 (by decide) rfl ?_
              obtain ⟨n19, hq⟩ := hq
              refine G_sub [2, 3, 4, 5, 1, 0] (by rfl) (s_Mo_face_L69 C R ?_ n19 _ _ _ _ _ _ hq)
              · intro x20 x21 x22 x23 M24 hq
                refine G_iload C 4 d_Mo_face_129 rfl ?_
                refine G_if_eq C (tgt := 137) d_Mo_face_131 (by decide) (fun c => ?_) (fun c => ?_)
                · replace hq := hq.1 c
                  refine G_aload_n C 0 d_Mo_face_137 rfl rfl ?_
                  refine Gg_Mo_faces C wd_523 d_Mo_face_138 ?_
                  refine G_bipush C (v := 10) d_Mo_face_141 (by decide) ?_
                  refine G_icmp_ne C (tgt := 149) d_Mo_face_143 (by decide) (fun c => ?_) (fun c => ?_)
                  · replace hq := hq.1 c
                    refine G_aload_n C 0 d_Mo_face_149 rfl rfl ?_
                    refine Gg_Mo_first C wd_526 d_Mo_face_150 ?_
                    refine G_aload_n C 0 d_Mo_face_153 rfl rfl ?_
                    refine Gg_Mo_faces C wd_523 d_Mo_face_154 ?_
                    refine G_iload_n C 1 d_Mo_face_157 rfl rfl ?_
                    refine G_iastore C (k := 59) (by decide) (fun _ _ => rfl) hq.1 d_Mo_face_158 ?_
                    replace hq := hq.2 _ rfl
                    refine G_aload_n C 0 d_Mo_face_159 rfl rfl ?_
                    refine Gg_Mo_second C wd_527 d_Mo_face_160 ?_
                    refine G_aload_n C 0 d_Mo_face_163 rfl rfl ?_
                    refine Gg_Mo_faces C wd_523 d_Mo_face_164 ?_
                    refine G_iload_n C 2 d_Mo_face_167 rfl rfl ?_
                    refine G_iastore C (k := 60) (by decide) (fun _ _ => rfl) hq.1 d_Mo_face_168 ?_
                    replace hq := hq.2 _ rfl
                    refine G_aload_n C 0 d_Mo_face_169 rfl rfl ?_
                    refine Gg_Mo_third C wd_528 d_Mo_face_170 ?_
                    refine G_aload_n C 0 d_Mo_face_173 rfl rfl ?_
                    refine Gg_Mo_faces C wd_523 d_Mo_face_174 ?_
                    refine G_iload_n C 3 d_Mo_face_177 rfl rfl ?_
                    refine G_iastore C (k := 61) (by decide) (fun _ _ => rfl) hq.1 d_Mo_face_178 ?_
                    replace hq := hq.2 _ rfl
                    refine G_aload_n C 0 d_Mo_face_179 rfl rfl ?_
                    refine G_dup C d_Mo_face_180 rfl ?_
                    refine Gg_Mo_faces C wd_523 d_Mo_face_181 ?_
                    refine G_iconst C (v := 1) d_Mo_face_184 (by decide) ?_
                    refine G_iadd C d_Mo_face_185 ?_
                    refine Gp_Mo_faces C wd_523 d_Mo_face_186 ?_
                    replace hq := hq _ rfl
                    refine G_aload_n C 0 d_Mo_face_189 rfl rfl ?_
                    refine Gg_Mo_faces C wd_523 d_Mo_face_190 ?_
                    refine G_iconst C (v := 1) d_Mo_face_193 (by decide) ?_
                    refine G_isub C d_Mo_face_194 ?_
                    exact G_iret C R d_Mo_face_195 ⟨_, rfl, hq⟩
                  · replace hq := hq.2 c
                    refine G_bipush C (v := -4) d_Mo_face_146 (by decide) ?_
                    exact G_iret C R d_Mo_face_148 ⟨_, rfl, hq⟩
                · replace hq := hq.2 c
                  refine G_bipush C (v := -3) d_Mo_face_134 (by decide) ?_
                  exact G_iret C R d_Mo_face_136 ⟨_, rfl, hq⟩
            · replace hq := hq.2 c
              refine G_aload_n C 0 d_Mo_face_49 rfl rfl ?_
              refine G_iload_n C 1 d_Mo_face_50 rfl rfl ?_
              refine G_iload_n C 3 d_Mo_face_51 rfl rfl ?_
              refine G_callV C (s_Mo_edgeOf hq) v_Mo_edgeOf i_Mo_edgeOf z_Mo_edgeOf wd_620 (by decide) rfl (k := 56) (ci := 7) (by decide) rfl rfl rfl (rest := []) (by rfl) (Nat.le_of_ble_eq_true rfl) d_Mo_face_52 (ki_ (fun r30 M29 hq => ?_))
              refine G_iconst C (v := -1) d_Mo_face_55 (by decide) ?_
              refine G_icmp_ne C (tgt := 63) d_Mo_face_56 (by decide) (fun c => ?_) (fun c => ?_)
              · replace hq := hq.1 c
                refine G_iconst C (v := 0) d_Mo_face_63 (by decide) ?_
                refine G_istore C (lv' := [(4, _), (0, _), (1, _), (2, _), (3, _)]) d_Mo_face_64 (by decide) rfl ?_
                refine G_iconst C (v := 0) d_Mo_face_66 (by decide) ?_
                refine G_istore C (lv' := [(5, _), (4, _), (0, _), (1, _), (2, _), (3, _)]) d_Mo_face_67 (by decide) rfl ?_
                obtain ⟨n31, hq⟩ := hq
                refine G_sub [2, 3, 4, 5, 1, 0] (by rfl) (s_Mo_face_L69 C R ?_ n31 _ _ _ _ _ _ hq)
                · intro x32 x33 x34 x35 M36 hq
                  refine G_iload C 4 d_Mo_face_129 rfl ?_
                  refine G_if_eq C (tgt := 137) d_Mo_face_131 (by decide) (fun c => ?_) (fun c => ?_)
                  · replace hq := hq.1 c
                    refine G_aload_n C 0 d_Mo_face_137 rfl rfl ?_
                    refine Gg_Mo_faces C wd_523 d_Mo_face_138 ?_
                    refine G_bipush C (v := 10) d_Mo_face_141 (by decide) ?_
                    refine G_icmp_ne C (tgt := 149) d_Mo_face_143 (by decide) (fun c => ?_) (fun c => ?_)
                    · replace hq := hq.1 c
                      refine G_aload_n C 0 d_Mo_face_149 rfl rfl ?_
                      refine Gg_Mo_first C wd_526 d_Mo_face_150 ?_
                      refine G_aload_n C 0 d_Mo_face_153 rfl rfl ?_
                      refine Gg_Mo_faces C wd_523 d_Mo_face_154 ?_
                      refine G_iload_n C 1 d_Mo_face_157 rfl rfl ?_
                      refine G_iastore C (k := 59) (by decide) (fun _ _ => rfl) hq.1 d_Mo_face_158 ?_
                      replace hq := hq.2 _ rfl
                      refine G_aload_n C 0 d_Mo_face_159 rfl rfl ?_
                      refine Gg_Mo_second C wd_527 d_Mo_face_160 ?_
                      refine G_aload_n C 0 d_Mo_face_163 rfl rfl ?_
                      refine Gg_Mo_faces C wd_523 d_Mo_face_164 ?_
                      refine G_iload_n C 2 d_Mo_face_167 rfl rfl ?_
                      refine G_iastore C (k := 60) (by decide) (fun _ _ => rfl) hq.1 d_Mo_face_168 ?_
                      replace hq := hq.2 _ rfl
                      refine G_aload_n C 0 d_Mo_face_169 rfl rfl ?_
                      refine Gg_Mo_third C wd_528 d_Mo_face_170 ?_
                      refine G_aload_n C 0 d_Mo_face_173 rfl rfl ?_
                      refine Gg_Mo_faces C wd_523 d_Mo_face_174 ?_
                      refine G_iload_n C 3 d_Mo_face_177 rfl rfl ?_
                      refine G_iastore C (k := 61) (by decide) (fun _ _ => rfl) hq.1 d_Mo_face_178 ?_
                      replace hq := hq.2 _ rfl
                      refine G_aload_n C 0 d_Mo_face_179 rfl rfl ?_
                      refine G_dup C d_Mo_face_180 rfl ?_
                      refine Gg_Mo_faces C wd_523 d_Mo_face_181 ?_
                      refine G_iconst C (v := 1) d_Mo_face_184 (by decide) ?_
                      refine G_iadd C d_Mo_face_185 ?_
                      refine Gp_Mo_faces C wd_523 d_Mo_face_186 ?_
                      replace hq := hq _ rfl
                      refine G_aload_n C 0 d_Mo_face_189 rfl rfl ?_
                      refine Gg_Mo_faces C wd_523 d_Mo_face_190 ?_
                      refine G_iconst C (v := 1) d_Mo_face_193 (by decide) ?_
                      refine G_isub C d_Mo_face_194 ?_
                      exact G_iret C R d_Mo_face_195 ⟨_, rfl, hq⟩
                    · replace hq := hq.2 c
                      refine G_bipush C (v := -4) d_Mo_face_146 (by decide) ?_
                      exact G_iret C R d_Mo_face_148 ⟨_, rfl, hq⟩
                  · replace hq := hq.2 c
                    refine G_bipush C (v := -3) d_Mo_face_134 (by decide) ?_
                    exact G_iret C R d_Mo_face_136 ⟨_, rfl, hq⟩
              · replace hq := hq.2 c
                refine G_iconst C (v := 1) d_Mo_face_59 (by decide) ?_
                refine G_goto C (tgt := 64) d_Mo_face_60 (by decide) ?_
                refine G_istore C (lv' := [(4, _), (0, _), (1, _), (2, _), (3, _)]) d_Mo_face_64 (by decide) rfl ?_
                refine G_iconst C (v := 0) d_Mo_face_66 (by decide) ?_
                refine G_istore C (lv' := [(5, _), (4, _), (0, _), (1, _), (2, _), (3, _)]) d_Mo_face_67 (by decide) rfl ?_
                obtain ⟨n41, hq⟩ := hq
                refine G_sub [2, 3, 4, 5, 1, 0] (by rfl) (s_Mo_face_L69 C R ?_ n41 _ _ _ _ _ _ hq)
                · intro x42 x43 x44 x45 M46 hq
                  refine G_iload C 4 d_Mo_face_129 rfl ?_
                  refine G_if_eq C (tgt := 137) d_Mo_face_131 (by decide) (fun c => ?_) (fun c => ?_)
                  · replace hq := hq.1 c
                    refine G_aload_n C 0 d_Mo_face_137 rfl rfl ?_
                    refine Gg_Mo_faces C wd_523 d_Mo_face_138 ?_
                    refine G_bipush C (v := 10) d_Mo_face_141 (by decide) ?_
                    refine G_icmp_ne C (tgt := 149) d_Mo_face_143 (by decide) (fun c => ?_) (fun c => ?_)
                    · replace hq := hq.1 c
                      refine G_aload_n C 0 d_Mo_face_149 rfl rfl ?_
                      refine Gg_Mo_first C wd_526 d_Mo_face_150 ?_
                      refine G_aload_n C 0 d_Mo_face_153 rfl rfl ?_
                      refine Gg_Mo_faces C wd_523 d_Mo_face_154 ?_
                      refine G_iload_n C 1 d_Mo_face_157 rfl rfl ?_
                      refine G_iastore C (k := 59) (by decide) (fun _ _ => rfl) hq.1 d_Mo_face_158 ?_
                      replace hq := hq.2 _ rfl
                      refine G_aload_n C 0 d_Mo_face_159 rfl rfl ?_
                      refine Gg_Mo_second C wd_527 d_Mo_face_160 ?_
                      refine G_aload_n C 0 d_Mo_face_163 rfl rfl ?_
                      refine Gg_Mo_faces C wd_523 d_Mo_face_164 ?_
                      refine G_iload_n C 2 d_Mo_face_167 rfl rfl ?_
                      refine G_iastore C (k := 60) (by decide) (fun _ _ => rfl) hq.1 d_Mo_face_168 ?_
                      replace hq := hq.2 _ rfl
                      refine G_aload_n C 0 d_Mo_face_169 rfl rfl ?_
                      refine Gg_Mo_third C wd_528 d_Mo_face_170 ?_
                      refine G_aload_n C 0 d_Mo_face_173 rfl rfl ?_
                      refine Gg_Mo_faces C wd_523 d_Mo_face_174 ?_
                      refine G_iload_n C 3 d_Mo_face_177 rfl rfl ?_
                      refine G_iastore C (k := 61) (by decide) (fun _ _ => rfl) hq.1 d_Mo_face_178 ?_
                      replace hq := hq.2 _ rfl
                      refine G_aload_n C 0 d_Mo_face_179 rfl rfl ?_
                      refine G_dup C d_Mo_face_180 rfl ?_
                      refine Gg_Mo_faces C wd_523 d_Mo_face_181 ?_
                      refine G_iconst C (v := 1) d_Mo_face_184 (by decide) ?_
                      refine G_iadd C d_Mo_face_185 ?_
                      refine Gp_Mo_faces C wd_523 d_Mo_face_186 ?_
                      replace hq := hq _ rfl
                      refine G_aload_n C 0 d_Mo_face_189 rfl rfl ?_
                      refine Gg_Mo_faces C wd_523 d_Mo_face_190 ?_
                      refine G_iconst C (v := 1) d_Mo_face_193 (by decide) ?_
                      refine G_isub C d_Mo_face_194 ?_
                      exact G_iret C R d_Mo_face_195 ⟨_, rfl, hq⟩
                    · replace hq := hq.2 c
                      refine G_bipush C (v := -4) d_Mo_face_146 (by decide) ?_
                      exact G_iret C R d_Mo_face_148 ⟨_, rfl, hq⟩
                  · replace hq := hq.2 c
                    refine G_bipush C (v := -3) d_Mo_face_134 (by decide) ?_
                    exact G_iret C R d_Mo_face_136 ⟨_, rfl, hq⟩
        · replace hq := hq.2 c
          refine G_bipush C (v := -2) d_Mo_face_26 (by decide) ?_
          exact G_iret C R d_Mo_face_28 ⟨_, rfl, hq⟩
theorem d_Mo_form_0 : decode b_Mo_form 0 = .ok (.iload_n 1, 1) := by decide +kernel
theorem d_Mo_form_1 : decode b_Mo_form 1 = .ok (.invokestatic 102, 3) := by decide +kernel
theorem d_Mo_form_4 : decode b_Mo_form 4 = .ok (.ifCond .eq 15, 3) := by decide +kernel
theorem d_Mo_form_7 : decode b_Mo_form 7 = .ok (.iload_n 2, 1) := by decide +kernel
theorem d_Mo_form_8 : decode b_Mo_form 8 = .ok (.i2l, 1) := by decide +kernel
theorem d_Mo_form_9 : decode b_Mo_form 9 = .ok (.lconst 0, 1) := by decide +kernel
theorem d_Mo_form_10 : decode b_Mo_form 10 = .ok (.ldc2_w 105, 3) := by decide +kernel
theorem d_Mo_form_13 : decode b_Mo_form 13 = .ok (.invokestatic 75, 3) := by decide +kernel
theorem d_Mo_form_16 : decode b_Mo_form 16 = .ok (.ifCond .ne 6, 3) := by decide +kernel
theorem d_Mo_form_19 : decode b_Mo_form 19 = .ok (.bipush (-2), 2) := by decide +kernel
theorem d_Mo_form_21 : decode b_Mo_form 21 = .ok (.ireturn, 1) := by decide +kernel
theorem d_Mo_form_22 : decode b_Mo_form 22 = .ok (.aload_n 0, 1) := by decide +kernel
theorem d_Mo_form_23 : decode b_Mo_form 23 = .ok (.iload_n 1, 1) := by decide +kernel
theorem d_Mo_form_24 : decode b_Mo_form 24 = .ok (.iload_n 2, 1) := by decide +kernel
theorem d_Mo_form_25 : decode b_Mo_form 25 = .ok (.invokevirtual 88, 3) := by decide +kernel
theorem d_Mo_form_28 : decode b_Mo_form 28 = .ok (.iconst 1, 1) := by decide +kernel
theorem d_Mo_form_29 : decode b_Mo_form 29 = .ok (.ireturn, 1) := by decide +kernel
def q_Mo_form (a1 : Int32) (a2 : Int32) (M : Mem) (post : Int32 → Mem → Prop) : Prop := q_Mo_isForm a1 M (fun r2 M1 => (r2 = 0 → post (-2 : Int32) M1) ∧ (¬ r2 = 0 → q_Mo_in a2.toInt64 (0 : Int64) (2 : Int64) M1 (fun r4 M3 => (¬ r4 = 0 → q_Mo_clears a1 a2 M3 (fun M5 => post (1 : Int32) M5)) ∧ (r4 = 0 → post (-2 : Int32) M3))))
set_option maxHeartbeats 4000000 in
theorem s_Mo_form {l : Launch} {κ : Kp} {a1 : Int32} {a2 : Int32} {M : Mem} {post : Int32 → Mem → Prop} (hq : q_Mo_form a1 a2 M post) : Ct l κ y_Mo_form b_Mo_form 3 (some .int) 2 [.ref (κ.1 + 56), .int a1, .int a2] M (pI post) := by
  refine Ct_of (by decide) (Nat.le_of_ble_eq_true rfl) (fun γ hγ C R => ?_)
  subst hγ
  unfold q_Mo_form at hq
  show G γ κ 3 (0, 0) (Gq γ κ (pI post)) 0 [(0, .ref (κ.1 + 56)), (1, .int a1), (2, .int a2)] [] M
  refine G_iload_n C 1 d_Mo_form_0 rfl rfl ?_
  refine G_callS C (s_Mo_isForm hq) v_Mo_isForm z_Mo_isForm wd_636 (by decide) rfl (rest := []) (by rfl) (Nat.le_of_ble_eq_true rfl) d_Mo_form_1 (ki_ (fun r2 M1 hq => ?_))
  refine G_if_eq C (tgt := 19) d_Mo_form_4 (by decide) (fun c => ?_) (fun c => ?_)
  · replace hq := hq.1 c
    refine G_bipush C (v := -2) d_Mo_form_19 (by decide) ?_
    exact G_iret C R d_Mo_form_21 ⟨_, rfl, hq⟩
  · replace hq := hq.2 c
    refine G_iload_n C 2 d_Mo_form_7 rfl rfl ?_
    refine G_i2l C d_Mo_form_8 ?_
    refine G_lconst C (v := 0) d_Mo_form_9 (by decide) ?_
    refine G_ldc2 C (v := 2) wd_640 d_Mo_form_10 ?_
    refine G_callS C (s_Mo_in hq) v_Mo_in z_Mo_in wd_605 (by decide) rfl (rest := []) (by rfl) (Nat.le_of_ble_eq_true rfl) d_Mo_form_13 (ki_ (fun r4 M3 hq => ?_))
    refine G_if_ne C (tgt := 22) d_Mo_form_16 (by decide) (fun c => ?_) (fun c => ?_)
    · replace hq := hq.1 c
      refine G_aload_n C 0 d_Mo_form_22 rfl rfl ?_
      refine G_iload_n C 1 d_Mo_form_23 rfl rfl ?_
      refine G_iload_n C 2 d_Mo_form_24 rfl rfl ?_
      refine G_callV C (s_Mo_clears hq) v_Mo_clears i_Mo_clears z_Mo_clears wd_608 (by decide) rfl (k := 56) (ci := 7) (by decide) rfl rfl rfl (rest := []) (by rfl) (Nat.le_of_ble_eq_true rfl) d_Mo_form_25 (kv_ (fun M5 hq => ?_))
      refine G_iconst C (v := 1) d_Mo_form_28 (by decide) ?_
      exact G_iret C R d_Mo_form_29 ⟨_, rfl, hq⟩
    · replace hq := hq.2 c
      refine G_bipush C (v := -2) d_Mo_form_19 (by decide) ?_
      exact G_iret C R d_Mo_form_21 ⟨_, rfl, hq⟩
theorem d_Mo_isThere_0 : decode b_Mo_isThere 0 = .ok (.iload_n 1, 1) := by decide +kernel
theorem d_Mo_isThere_1 : decode b_Mo_isThere 1 = .ok (.invokestatic 102, 3) := by decide +kernel
theorem d_Mo_isThere_4 : decode b_Mo_isThere 4 = .ok (.ifCond .eq 29, 3) := by decide +kernel
theorem d_Mo_isThere_7 : decode b_Mo_isThere 7 = .ok (.iload_n 2, 1) := by decide +kernel
theorem d_Mo_isThere_8 : decode b_Mo_isThere 8 = .ok (.i2l, 1) := by decide +kernel
theorem d_Mo_isThere_9 : decode b_Mo_isThere 9 = .ok (.lconst 0, 1) := by decide +kernel
theorem d_Mo_isThere_10 : decode b_Mo_isThere 10 = .ok (.aload_n 0, 1) := by decide +kernel
theorem d_Mo_isThere_11 : decode b_Mo_isThere 11 = .ok (.aload_n 0, 1) := by decide +kernel
theorem d_Mo_isThere_12 : decode b_Mo_isThere 12 = .ok (.getfield 29, 3) := by decide +kernel
theorem d_Mo_isThere_15 : decode b_Mo_isThere 15 = .ok (.iload_n 1, 1) := by decide +kernel
theorem d_Mo_isThere_16 : decode b_Mo_isThere 16 = .ok (.iaload, 1) := by decide +kernel
theorem d_Mo_isThere_17 : decode b_Mo_isThere 17 = .ok (.invokevirtual 107, 3) := by decide +kernel
theorem d_Mo_isThere_20 : decode b_Mo_isThere 20 = .ok (.iconst 1, 1) := by decide +kernel
theorem d_Mo_isThere_21 : decode b_Mo_isThere 21 = .ok (.isub, 1) := by decide +kernel
theorem d_Mo_isThere_22 : decode b_Mo_isThere 22 = .ok (.i2l, 1) := by decide +kernel
theorem d_Mo_isThere_23 : decode b_Mo_isThere 23 = .ok (.invokestatic 75, 3) := by decide +kernel
theorem d_Mo_isThere_26 : decode b_Mo_isThere 26 = .ok (.ifCond .eq 7, 3) := by decide +kernel
theorem d_Mo_isThere_29 : decode b_Mo_isThere 29 = .ok (.iconst 1, 1) := by decide +kernel
theorem d_Mo_isThere_30 : decode b_Mo_isThere 30 = .ok (.goto 4, 3) := by decide +kernel
theorem d_Mo_isThere_33 : decode b_Mo_isThere 33 = .ok (.iconst 0, 1) := by decide +kernel
theorem d_Mo_isThere_34 : decode b_Mo_isThere 34 = .ok (.ireturn, 1) := by decide +kernel
def q_Mo_isThere (a1 : Int32) (a2 : Int32) (M : Mem) (post : Int32 → Mem → Prop) : Prop := q_Mo_isForm a1 M (fun r2 M1 => (r2 = 0 → post (0 : Int32) M1) ∧ (¬ r2 = 0 → vp_in a1 12 ∧ (q_Mo_size (M1.1 62 a1.toNatClampNeg) M1 (fun r4 M3 => q_Mo_in a2.toInt64 (0 : Int64) ((r4 - (1 : Int32)).toInt64) M3 (fun r6 M5 => (r6 = 0 → post (0 : Int32) M5) ∧ (¬ r6 = 0 → post (1 : Int32) M5))))))
set_option maxHeartbeats 4000000 in
theorem s_Mo_isThere {l : Launch} {κ : Kp} {a1 : Int32} {a2 : Int32} {M : Mem} {post : Int32 → Mem → Prop} (hq : q_Mo_isThere a1 a2 M post) : Ct l κ y_Mo_isThere b_Mo_isThere 3 (some .boolean) 2 [.ref (κ.1 + 56), .int a1, .int a2] M (pI post) := by
  refine Ct_of (by decide) (Nat.le_of_ble_eq_true rfl) (fun γ hγ C R => ?_)
  subst hγ
  unfold q_Mo_isThere at hq
  show G γ κ 3 (0, 0) (Gq γ κ (pI post)) 0 [(0, .ref (κ.1 + 56)), (1, .int a1), (2, .int a2)] [] M
  refine G_iload_n C 1 d_Mo_isThere_0 rfl rfl ?_
  refine G_callS C (s_Mo_isForm hq) v_Mo_isForm z_Mo_isForm wd_636 (by decide) rfl (rest := []) (by rfl) (Nat.le_of_ble_eq_true rfl) d_Mo_isThere_1 (ki_ (fun r2 M1 hq => ?_))
  refine G_if_eq C (tgt := 33) d_Mo_isThere_4 (by decide) (fun c => ?_) (fun c => ?_)
  · replace hq := hq.1 c
    refine G_iconst C (v := 0) d_Mo_isThere_33 (by decide) ?_
    exact G_zret C R rfl d_Mo_isThere_34 ⟨_, rfl, hq⟩
  · replace hq := hq.2 c
    refine G_iload_n C 2 d_Mo_isThere_7 rfl rfl ?_
    refine G_i2l C d_Mo_isThere_8 ?_
    refine G_lconst C (v := 0) d_Mo_isThere_9 (by decide) ?_
    refine G_aload_n C 0 d_Mo_isThere_10 rfl rfl ?_
    refine G_aload_n C 0 d_Mo_isThere_11 rfl rfl ?_
    refine Gg_Mo_degree C wd_529 d_Mo_isThere_12 ?_
    refine G_iload_n C 1 d_Mo_isThere_15 rfl rfl ?_
    refine G_iaload C (k := 62) (by decide) (fun _ _ => rfl) hq.1 d_Mo_isThere_16 ?_
    replace hq := hq.2
    refine G_callV C (s_Mo_size hq) v_Mo_size i_Mo_size z_Mo_size wd_649 (by decide) rfl (k := 56) (ci := 7) (by decide) rfl rfl rfl (rest := [_, _]) (by rfl) (Nat.le_of_ble_eq_true rfl) d_Mo_isThere_17 (ki_ (fun r4 M3 hq => ?_))
    refine G_iconst C (v := 1) d_Mo_isThere_20 (by decide) ?_
    refine G_isub C d_Mo_isThere_21 ?_
    refine G_i2l C d_Mo_isThere_22 ?_
    refine G_callS C (s_Mo_in hq) v_Mo_in z_Mo_in wd_605 (by decide) rfl (rest := []) (by rfl) (Nat.le_of_ble_eq_true rfl) d_Mo_isThere_23 (ki_ (fun r6 M5 hq => ?_))
    refine G_if_eq C (tgt := 33) d_Mo_isThere_26 (by decide) (fun c => ?_) (fun c => ?_)
    · replace hq := hq.1 c
      refine G_iconst C (v := 0) d_Mo_isThere_33 (by decide) ?_
      exact G_zret C R rfl d_Mo_isThere_34 ⟨_, rfl, hq⟩
    · replace hq := hq.2 c
      refine G_iconst C (v := 1) d_Mo_isThere_29 (by decide) ?_
      refine G_goto C (tgt := 34) d_Mo_isThere_30 (by decide) ?_
      exact G_zret C R rfl d_Mo_isThere_34 ⟨_, rfl, hq⟩
theorem d_Mo_makeSlope_0 : decode b_Mo_makeSlope 0 = .ok (.aload_n 0, 1) := by decide +kernel
theorem d_Mo_makeSlope_1 : decode b_Mo_makeSlope 1 = .ok (.getfield 29, 3) := by decide +kernel
theorem d_Mo_makeSlope_4 : decode b_Mo_makeSlope 4 = .ok (.iload_n 1, 1) := by decide +kernel
theorem d_Mo_makeSlope_5 : decode b_Mo_makeSlope 5 = .ok (.iaload, 1) := by decide +kernel
theorem d_Mo_makeSlope_6 : decode b_Mo_makeSlope 6 = .ok (.iconst 1, 1) := by decide +kernel
theorem d_Mo_makeSlope_7 : decode b_Mo_makeSlope 7 = .ok (.iadd, 1) := by decide +kernel
theorem d_Mo_makeSlope_8 : decode b_Mo_makeSlope 8 = .ok (.istore_n 2, 1) := by decide +kernel
theorem d_Mo_makeSlope_9 : decode b_Mo_makeSlope 9 = .ok (.iconst 0, 1) := by decide +kernel
theorem d_Mo_makeSlope_10 : decode b_Mo_makeSlope 10 = .ok (.istore_n 3, 1) := by decide +kernel
theorem d_Mo_makeSlope_11 : decode b_Mo_makeSlope 11 = .ok (.iload_n 3, 1) := by decide +kernel
theorem d_Mo_makeSlope_12 : decode b_Mo_makeSlope 12 = .ok (.aload_n 0, 1) := by decide +kernel
theorem d_Mo_makeSlope_13 : decode b_Mo_makeSlope 13 = .ok (.iload_n 2, 1) := by decide +kernel
theorem d_Mo_makeSlope_14 : decode b_Mo_makeSlope 14 = .ok (.invokevirtual 107, 3) := by decide +kernel
theorem d_Mo_makeSlope_17 : decode b_Mo_makeSlope 17 = .ok (.if_icmp .ge 99, 3) := by decide +kernel
theorem d_Mo_makeSlope_20 : decode b_Mo_makeSlope 20 = .ok (.aload_n 0, 1) := by decide +kernel
theorem d_Mo_makeSlope_21 : decode b_Mo_makeSlope 21 = .ok (.getfield 49, 3) := by decide +kernel
theorem d_Mo_makeSlope_24 : decode b_Mo_makeSlope 24 = .ok (.iload_n 3, 1) := by decide +kernel
theorem d_Mo_makeSlope_25 : decode b_Mo_makeSlope 25 = .ok (.iload_n 2, 1) := by decide +kernel
theorem d_Mo_makeSlope_26 : decode b_Mo_makeSlope 26 = .ok (.iconst 1, 1) := by decide +kernel
theorem d_Mo_makeSlope_27 : decode b_Mo_makeSlope 27 = .ok (.if_icmp .ne 29, 3) := by decide +kernel
theorem d_Mo_makeSlope_30 : decode b_Mo_makeSlope 30 = .ok (.aload_n 0, 1) := by decide +kernel
theorem d_Mo_makeSlope_31 : decode b_Mo_makeSlope 31 = .ok (.iload_n 1, 1) := by decide +kernel
theorem d_Mo_makeSlope_32 : decode b_Mo_makeSlope 32 = .ok (.aload_n 0, 1) := by decide +kernel
theorem d_Mo_makeSlope_33 : decode b_Mo_makeSlope 33 = .ok (.getfield 17, 3) := by decide +kernel
theorem d_Mo_makeSlope_36 : decode b_Mo_makeSlope 36 = .ok (.iload_n 3, 1) := by decide +kernel
theorem d_Mo_makeSlope_37 : decode b_Mo_makeSlope 37 = .ok (.iaload, 1) := by decide +kernel
theorem d_Mo_makeSlope_38 : decode b_Mo_makeSlope 38 = .ok (.invokevirtual 120, 3) := by decide +kernel
theorem d_Mo_makeSlope_41 : decode b_Mo_makeSlope 41 = .ok (.aload_n 0, 1) := by decide +kernel
theorem d_Mo_makeSlope_42 : decode b_Mo_makeSlope 42 = .ok (.iload_n 1, 1) := by decide +kernel
theorem d_Mo_makeSlope_43 : decode b_Mo_makeSlope 43 = .ok (.aload_n 0, 1) := by decide +kernel
theorem d_Mo_makeSlope_44 : decode b_Mo_makeSlope 44 = .ok (.getfield 13, 3) := by decide +kernel
theorem d_Mo_makeSlope_47 : decode b_Mo_makeSlope 47 = .ok (.iload_n 3, 1) := by decide +kernel
theorem d_Mo_makeSlope_48 : decode b_Mo_makeSlope 48 = .ok (.iaload, 1) := by decide +kernel
theorem d_Mo_makeSlope_49 : decode b_Mo_makeSlope 49 = .ok (.invokevirtual 120, 3) := by decide +kernel
theorem d_Mo_makeSlope_52 : decode b_Mo_makeSlope 52 = .ok (.lsub, 1) := by decide +kernel
theorem d_Mo_makeSlope_53 : decode b_Mo_makeSlope 53 = .ok (.goto 56, 3) := by decide +kernel
theorem d_Mo_makeSlope_56 : decode b_Mo_makeSlope 56 = .ok (.aload_n 0, 1) := by decide +kernel
theorem d_Mo_makeSlope_57 : decode b_Mo_makeSlope 57 = .ok (.iload_n 1, 1) := by decide +kernel
theorem d_Mo_makeSlope_58 : decode b_Mo_makeSlope 58 = .ok (.aload_n 0, 1) := by decide +kernel
theorem d_Mo_makeSlope_59 : decode b_Mo_makeSlope 59 = .ok (.getfield 20, 3) := by decide +kernel
theorem d_Mo_makeSlope_62 : decode b_Mo_makeSlope 62 = .ok (.iload_n 3, 1) := by decide +kernel
theorem d_Mo_makeSlope_63 : decode b_Mo_makeSlope 63 = .ok (.iaload, 1) := by decide +kernel
theorem d_Mo_makeSlope_64 : decode b_Mo_makeSlope 64 = .ok (.aload_n 0, 1) := by decide +kernel
theorem d_Mo_makeSlope_65 : decode b_Mo_makeSlope 65 = .ok (.getfield 23, 3) := by decide +kernel
theorem d_Mo_makeSlope_68 : decode b_Mo_makeSlope 68 = .ok (.iload_n 3, 1) := by decide +kernel
theorem d_Mo_makeSlope_69 : decode b_Mo_makeSlope 69 = .ok (.iaload, 1) := by decide +kernel
theorem d_Mo_makeSlope_70 : decode b_Mo_makeSlope 70 = .ok (.invokevirtual 124, 3) := by decide +kernel
theorem d_Mo_makeSlope_73 : decode b_Mo_makeSlope 73 = .ok (.aload_n 0, 1) := by decide +kernel
theorem d_Mo_makeSlope_74 : decode b_Mo_makeSlope 74 = .ok (.iload_n 1, 1) := by decide +kernel
theorem d_Mo_makeSlope_75 : decode b_Mo_makeSlope 75 = .ok (.aload_n 0, 1) := by decide +kernel
theorem d_Mo_makeSlope_76 : decode b_Mo_makeSlope 76 = .ok (.getfield 23, 3) := by decide +kernel
theorem d_Mo_makeSlope_79 : decode b_Mo_makeSlope 79 = .ok (.iload_n 3, 1) := by decide +kernel
theorem d_Mo_makeSlope_80 : decode b_Mo_makeSlope 80 = .ok (.iaload, 1) := by decide +kernel
theorem d_Mo_makeSlope_81 : decode b_Mo_makeSlope 81 = .ok (.aload_n 0, 1) := by decide +kernel
theorem d_Mo_makeSlope_82 : decode b_Mo_makeSlope 82 = .ok (.getfield 26, 3) := by decide +kernel
theorem d_Mo_makeSlope_85 : decode b_Mo_makeSlope 85 = .ok (.iload_n 3, 1) := by decide +kernel
theorem d_Mo_makeSlope_86 : decode b_Mo_makeSlope 86 = .ok (.iaload, 1) := by decide +kernel
theorem d_Mo_makeSlope_87 : decode b_Mo_makeSlope 87 = .ok (.invokevirtual 124, 3) := by decide +kernel
theorem d_Mo_makeSlope_90 : decode b_Mo_makeSlope 90 = .ok (.ladd, 1) := by decide +kernel
theorem d_Mo_makeSlope_91 : decode b_Mo_makeSlope 91 = .ok (.aload_n 0, 1) := by decide +kernel
theorem d_Mo_makeSlope_92 : decode b_Mo_makeSlope 92 = .ok (.iload_n 1, 1) := by decide +kernel
theorem d_Mo_makeSlope_93 : decode b_Mo_makeSlope 93 = .ok (.aload_n 0, 1) := by decide +kernel
theorem d_Mo_makeSlope_94 : decode b_Mo_makeSlope 94 = .ok (.getfield 20, 3) := by decide +kernel
theorem d_Mo_makeSlope_97 : decode b_Mo_makeSlope 97 = .ok (.iload_n 3, 1) := by decide +kernel
theorem d_Mo_makeSlope_98 : decode b_Mo_makeSlope 98 = .ok (.iaload, 1) := by decide +kernel
theorem d_Mo_makeSlope_99 : decode b_Mo_makeSlope 99 = .ok (.aload_n 0, 1) := by decide +kernel
theorem d_Mo_makeSlope_100 : decode b_Mo_makeSlope 100 = .ok (.getfield 26, 3) := by decide +kernel
theorem d_Mo_makeSlope_103 : decode b_Mo_makeSlope 103 = .ok (.iload_n 3, 1) := by decide +kernel
theorem d_Mo_makeSlope_104 : decode b_Mo_makeSlope 104 = .ok (.iaload, 1) := by decide +kernel
theorem d_Mo_makeSlope_105 : decode b_Mo_makeSlope 105 = .ok (.invokevirtual 124, 3) := by decide +kernel
theorem d_Mo_makeSlope_108 : decode b_Mo_makeSlope 108 = .ok (.lsub, 1) := by decide +kernel
theorem d_Mo_makeSlope_109 : decode b_Mo_makeSlope 109 = .ok (.lastore, 1) := by decide +kernel
theorem d_Mo_makeSlope_110 : decode b_Mo_makeSlope 110 = .ok (.iinc 3 1, 3) := by decide +kernel
theorem d_Mo_makeSlope_113 : decode b_Mo_makeSlope 113 = .ok (.goto (-102), 3) := by decide +kernel
theorem d_Mo_makeSlope_116 : decode b_Mo_makeSlope 116 = .ok (.return_, 1) := by decide +kernel
def q_Mo_makeSlope_L11 (kx116 : Mem → Prop) (post : Mem → Prop) : Nat → Int32 → Int32 → Int32 → Mem → Prop
  | 0, _, _, _, _ => False
  | n + 1, x1, x2, x3, M => q_Mo_size x2 M (fun r2 M1 => (r2 ≤ x3 → kx116 M1) ∧ (¬ r2 ≤ x3 → (¬ x2 = (1 : Int32) → vp_in x3 10 ∧ (vp_in x3 10 ∧ (q_Mo_onEdge x1 (M1.1 59 x3.toNatClampNeg) (M1.1 60 x3.toNatClampNeg) M1 (fun r4 M3 => vp_in x3 10 ∧ (vp_in x3 10 ∧ (q_Mo_onEdge x1 (M3.1 60 x3.toNatClampNeg) (M3.1 61 x3.toNatClampNeg) M3 (fun r6 M5 => vp_in x3 10 ∧ (vp_in x3 10 ∧ (q_Mo_onEdge x1 (M5.1 59 x3.toNatClampNeg) (M5.1 61 x3.toNatClampNeg) M5 (fun r8 M7 => vp_in x3 12 ∧ (∀ M9, M9 = wJ M7 68 x3.toNatClampNeg ((r4 + r6) - r8) → q_Mo_makeSlope_L11 kx116 post n x1 x2 (x3 + 1) M9))))))))))) ∧ (x2 = (1 : Int32) → vp_in x3 12 ∧ (q_Mo_at x1 (M1.1 58 x3.toNatClampNeg) M1 (fun r11 M10 => vp_in x3 12 ∧ (q_Mo_at x1 (M10.1 57 x3.toNatClampNeg) M10 (fun r13 M12 => vp_in x3 12 ∧ (∀ M14, M14 = wJ M12 68 x3.toNatClampNeg (r11 - r13) → q_Mo_makeSlope_L11 kx116 post n x1 x2 (x3 + 1) M14))))))))
set_option maxHeartbeats 4000000 in
theorem s_Mo_makeSlope_L11 {γ : Gm} {κ : Kp} {post : Mem → Prop} {kx116 : Mem → Prop} (C : Cx γ κ "NetFormsModel" b_Mo_makeSlope 4 2 (0, 0)) (R : Rt γ (none)) (hx116 : ∀ M', kx116 M' → G γ κ 4 (0, 0) (Gq γ κ (pV post)) 116 [] [] M') : ∀ (n : Nat) (x1 : Int32) (x2 : Int32) (x3 : Int32) (M : Mem), q_Mo_makeSlope_L11 kx116 post n x1 x2 x3 M → G γ κ 4 (0, 0) (Gq γ κ (pV post)) 11 [(0, .ref (κ.1 + 56)), (1, .int x1), (2, .int x2), (3, .int x3)] [] M := by
  intro n
  induction n with
  | zero => intro x1 x2 x3 M hq; exact hq.elim
  | succ n ih =>
    intro x1 x2 x3 M hq
    unfold q_Mo_makeSlope_L11 at hq
    refine G_iload_n C 3 d_Mo_makeSlope_11 rfl rfl ?_
    refine G_aload_n C 0 d_Mo_makeSlope_12 rfl rfl ?_
    refine G_iload_n C 2 d_Mo_makeSlope_13 rfl rfl ?_
    refine G_callV C (s_Mo_size hq) v_Mo_size i_Mo_size z_Mo_size wd_649 (by decide) rfl (k := 56) (ci := 7) (by decide) rfl rfl rfl (rest := [_]) (by rfl) (Nat.le_of_ble_eq_true rfl) d_Mo_makeSlope_14 (ki_ (fun r2 M1 hq => ?_))
    refine G_icmp_ge C (tgt := 116) d_Mo_makeSlope_17 (by decide) (fun c => ?_) (fun c => ?_)
    · replace hq := hq.1 c
      exact G_sub [] (by rfl) (hx116 _ hq)
    · replace hq := hq.2 c
      refine G_aload_n C 0 d_Mo_makeSlope_20 rfl rfl ?_
      refine Gg_Mo_made C wd_536 d_Mo_makeSlope_21 ?_
      refine G_iload_n C 3 d_Mo_makeSlope_24 rfl rfl ?_
      refine G_iload_n C 2 d_Mo_makeSlope_25 rfl rfl ?_
      refine G_iconst C (v := 1) d_Mo_makeSlope_26 (by decide) ?_
      refine G_icmp_ne C (tgt := 56) d_Mo_makeSlope_27 (by decide) (fun c => ?_) (fun c => ?_)
      · replace hq := hq.1 c
        refine G_aload_n C 0 d_Mo_makeSlope_56 rfl rfl ?_
        refine G_iload_n C 1 d_Mo_makeSlope_57 rfl rfl ?_
        refine G_aload_n C 0 d_Mo_makeSlope_58 rfl rfl ?_
        refine Gg_Mo_first C wd_526 d_Mo_makeSlope_59 ?_
        refine G_iload_n C 3 d_Mo_makeSlope_62 rfl rfl ?_
        refine G_iaload C (k := 59) (by decide) (fun _ _ => rfl) hq.1 d_Mo_makeSlope_63 ?_
        replace hq := hq.2
        refine G_aload_n C 0 d_Mo_makeSlope_64 rfl rfl ?_
        refine Gg_Mo_second C wd_527 d_Mo_makeSlope_65 ?_
        refine G_iload_n C 3 d_Mo_makeSlope_68 rfl rfl ?_
        refine G_iaload C (k := 60) (by decide) (fun _ _ => rfl) hq.1 d_Mo_makeSlope_69 ?_
        replace hq := hq.2
        refine G_callV C (s_Mo_onEdge hq) v_Mo_onEdge i_Mo_onEdge z_Mo_onEdge wd_672 (by decide) rfl (k := 56) (ci := 7) (by decide) rfl rfl rfl (rest := [_, _]) (by rfl) (Nat.le_of_ble_eq_true rfl) d_Mo_makeSlope_70 (kj_ (fun r4 M3 hq => ?_))
        refine G_aload_n C 0 d_Mo_makeSlope_73 rfl rfl ?_
        refine G_iload_n C 1 d_Mo_makeSlope_74 rfl rfl ?_
        refine G_aload_n C 0 d_Mo_makeSlope_75 rfl rfl ?_
        refine Gg_Mo_second C wd_527 d_Mo_makeSlope_76 ?_
        refine G_iload_n C 3 d_Mo_makeSlope_79 rfl rfl ?_
        refine G_iaload C (k := 60) (by decide) (fun _ _ => rfl) hq.1 d_Mo_makeSlope_80 ?_
        replace hq := hq.2
        refine G_aload_n C 0 d_Mo_makeSlope_81 rfl rfl ?_
        refine Gg_Mo_third C wd_528 d_Mo_makeSlope_82 ?_
        refine G_iload_n C 3 d_Mo_makeSlope_85 rfl rfl ?_
        refine G_iaload C (k := 61) (by decide) (fun _ _ => rfl) hq.1 d_Mo_makeSlope_86 ?_
        replace hq := hq.2
        refine G_callV C (s_Mo_onEdge hq) v_Mo_onEdge i_Mo_onEdge z_Mo_onEdge wd_672 (by decide) rfl (k := 56) (ci := 7) (by decide) rfl rfl rfl (rest := [_, _, _]) (by rfl) (Nat.le_of_ble_eq_true rfl) d_Mo_makeSlope_87 (kj_ (fun r6 M5 hq => ?_))
        refine G_ladd C d_Mo_makeSlope_90 ?_
        refine G_aload_n C 0 d_Mo_makeSlope_91 rfl rfl ?_
        refine G_iload_n C 1 d_Mo_makeSlope_92 rfl rfl ?_
        refine G_aload_n C 0 d_Mo_makeSlope_93 rfl rfl ?_
        refine Gg_Mo_first C wd_526 d_Mo_makeSlope_94 ?_
        refine G_iload_n C 3 d_Mo_makeSlope_97 rfl rfl ?_
        refine G_iaload C (k := 59) (by decide) (fun _ _ => rfl) hq.1 d_Mo_makeSlope_98 ?_
        replace hq := hq.2
        refine G_aload_n C 0 d_Mo_makeSlope_99 rfl rfl ?_
        refine Gg_Mo_third C wd_528 d_Mo_makeSlope_100 ?_
        refine G_iload_n C 3 d_Mo_makeSlope_103 rfl rfl ?_
        refine G_iaload C (k := 61) (by decide) (fun _ _ => rfl) hq.1 d_Mo_makeSlope_104 ?_
        replace hq := hq.2
        refine G_callV C (s_Mo_onEdge hq) v_Mo_onEdge i_Mo_onEdge z_Mo_onEdge wd_672 (by decide) rfl (k := 56) (ci := 7) (by decide) rfl rfl rfl (rest := [_, _, _]) (by rfl) (Nat.le_of_ble_eq_true rfl) d_Mo_makeSlope_105 (kj_ (fun r8 M7 hq => ?_))
        refine G_lsub C d_Mo_makeSlope_108 ?_
        refine G_lastore C (k := 68) (by decide) (fun _ _ => rfl) hq.1 d_Mo_makeSlope_109 ?_
        replace hq := hq.2 _ rfl
        refine G_iinc C (v := _ + 1) (lv' := [(3, _), (0, _), (1, _), (2, _)]) 3 d_Mo_makeSlope_110 rfl rfl (by decide) rfl ?_
        refine G_goto C (tgt := 11) d_Mo_makeSlope_113 (by decide) ?_
        exact G_sub [1, 2, 3, 0] (by rfl) (ih _ _ _ _ hq)
      · replace hq := hq.2 c
        refine G_aload_n C 0 d_Mo_makeSlope_30 rfl rfl ?_
        refine G_iload_n C 1 d_Mo_makeSlope_31 rfl rfl ?_
        refine G_aload_n C 0 d_Mo_makeSlope_32 rfl rfl ?_
        refine Gg_Mo_end C wd_525 d_Mo_makeSlope_33 ?_
        refine G_iload_n C 3 d_Mo_makeSlope_36 rfl rfl ?_
        refine G_iaload C (k := 58) (by decide) (fun _ _ => rfl) hq.1 d_Mo_makeSlope_37 ?_
        replace hq := hq.2
        refine G_callV C (s_Mo_at hq) v_Mo_at i_Mo_at z_Mo_at wd_668 (by decide) rfl (k := 56) (ci := 7) (by decide) rfl rfl rfl (rest := [_, _]) (by rfl) (Nat.le_of_ble_eq_true rfl) d_Mo_makeSlope_38 (kj_ (fun r11 M10 hq => ?_))
        refine G_aload_n C 0 d_Mo_makeSlope_41 rfl rfl ?_
        refine G_iload_n C 1 d_Mo_makeSlope_42 rfl rfl ?_
        refine G_aload_n C 0 d_Mo_makeSlope_43 rfl rfl ?_
        refine Gg_Mo_begin C wd_524 d_Mo_makeSlope_44 ?_
        refine G_iload_n C 3 d_Mo_makeSlope_47 rfl rfl ?_
        refine G_iaload C (k := 57) (by decide) (fun _ _ => rfl) hq.1 d_Mo_makeSlope_48 ?_
        replace hq := hq.2
        refine G_callV C (s_Mo_at hq) v_Mo_at i_Mo_at z_Mo_at wd_668 (by decide) rfl (k := 56) (ci := 7) (by decide) rfl rfl rfl (rest := [_, _, _]) (by rfl) (Nat.le_of_ble_eq_true rfl) d_Mo_makeSlope_49 (kj_ (fun r13 M12 hq => ?_))
        refine G_lsub C d_Mo_makeSlope_52 ?_
        refine G_goto C (tgt := 109) d_Mo_makeSlope_53 (by decide) ?_
        refine G_lastore C (k := 68) (by decide) (fun _ _ => rfl) hq.1 d_Mo_makeSlope_109 ?_
        replace hq := hq.2 _ rfl
        refine G_iinc C (v := _ + 1) (lv' := [(3, _), (0, _), (1, _), (2, _)]) 3 d_Mo_makeSlope_110 rfl rfl (by decide) rfl ?_
        refine G_goto C (tgt := 11) d_Mo_makeSlope_113 (by decide) ?_
        exact G_sub [1, 2, 3, 0] (by rfl) (ih _ _ _ _ hq)
def q_Mo_makeSlope (a1 : Int32) (M : Mem) (post : Mem → Prop) : Prop := vp_in a1 12 ∧ (∃ n15, q_Mo_makeSlope_L11 (fun M16 => post M16) post n15 a1 ((M.1 62 a1.toNatClampNeg) + (1 : Int32)) (0 : Int32) M)
set_option maxHeartbeats 4000000 in
theorem s_Mo_makeSlope {l : Launch} {κ : Kp} {a1 : Int32} {M : Mem} {post : Mem → Prop} (hq : q_Mo_makeSlope a1 M post) : Ct l κ y_Mo_makeSlope b_Mo_makeSlope 4 (none) 2 [.ref (κ.1 + 56), .int a1] M (pV post) := by
  refine Ct_of (by decide) (Nat.le_of_ble_eq_true rfl) (fun γ hγ C R => ?_)
  subst hγ
  unfold q_Mo_makeSlope at hq
  show G γ κ 4 (0, 0) (Gq γ κ (pV post)) 0 [(0, .ref (κ.1 + 56)), (1, .int a1)] [] M
  refine G_aload_n C 0 d_Mo_makeSlope_0 rfl rfl ?_
  refine Gg_Mo_degree C wd_529 d_Mo_makeSlope_1 ?_
  refine G_iload_n C 1 d_Mo_makeSlope_4 rfl rfl ?_
  refine G_iaload C (k := 62) (by decide) (fun _ _ => rfl) hq.1 d_Mo_makeSlope_5 ?_
  replace hq := hq.2
  refine G_iconst C (v := 1) d_Mo_makeSlope_6 (by decide) ?_
  refine G_iadd C d_Mo_makeSlope_7 ?_
  refine G_istore_n C (lv' := [(2, _), (0, _), (1, _)]) d_Mo_makeSlope_8 rfl (by decide) rfl ?_
  refine G_iconst C (v := 0) d_Mo_makeSlope_9 (by decide) ?_
  refine G_istore_n C (lv' := [(3, _), (2, _), (0, _), (1, _)]) d_Mo_makeSlope_10 rfl (by decide) rfl ?_
  obtain ⟨n15, hq⟩ := hq
  refine G_sub [2, 3, 1, 0] (by rfl) (s_Mo_makeSlope_L11 C R ?_ n15 _ _ _ _ hq)
  · intro M16 hq
    exact G_vret C R d_Mo_makeSlope_116 ⟨rfl, hq⟩
theorem d_Mo_rim_0 : decode b_Mo_rim 0 = .ok (.iload_n 1, 1) := by decide +kernel
theorem d_Mo_rim_1 : decode b_Mo_rim 1 = .ok (.invokestatic 102, 3) := by decide +kernel
theorem d_Mo_rim_4 : decode b_Mo_rim 4 = .ok (.ifCond .eq 10, 3) := by decide +kernel
theorem d_Mo_rim_7 : decode b_Mo_rim 7 = .ok (.iload_n 2, 1) := by decide +kernel
theorem d_Mo_rim_8 : decode b_Mo_rim 8 = .ok (.invokestatic 102, 3) := by decide +kernel
theorem d_Mo_rim_11 : decode b_Mo_rim 11 = .ok (.ifCond .ne 6, 3) := by decide +kernel
theorem d_Mo_rim_14 : decode b_Mo_rim 14 = .ok (.bipush (-2), 2) := by decide +kernel
theorem d_Mo_rim_16 : decode b_Mo_rim 16 = .ok (.ireturn, 1) := by decide +kernel
theorem d_Mo_rim_17 : decode b_Mo_rim 17 = .ok (.aload_n 0, 1) := by decide +kernel
theorem d_Mo_rim_18 : decode b_Mo_rim 18 = .ok (.getfield 29, 3) := by decide +kernel
theorem d_Mo_rim_21 : decode b_Mo_rim 21 = .ok (.iload_n 1, 1) := by decide +kernel
theorem d_Mo_rim_22 : decode b_Mo_rim 22 = .ok (.iaload, 1) := by decide +kernel
theorem d_Mo_rim_23 : decode b_Mo_rim 23 = .ok (.ifCond .ne 6, 3) := by decide +kernel
theorem d_Mo_rim_26 : decode b_Mo_rim 26 = .ok (.bipush (-3), 2) := by decide +kernel
theorem d_Mo_rim_28 : decode b_Mo_rim 28 = .ok (.ireturn, 1) := by decide +kernel
theorem d_Mo_rim_29 : decode b_Mo_rim 29 = .ok (.aload_n 0, 1) := by decide +kernel
theorem d_Mo_rim_30 : decode b_Mo_rim 30 = .ok (.iload_n 1, 1) := by decide +kernel
theorem d_Mo_rim_31 : decode b_Mo_rim 31 = .ok (.invokevirtual 135, 3) := by decide +kernel
theorem d_Mo_rim_34 : decode b_Mo_rim 34 = .ok (.aload_n 0, 1) := by decide +kernel
theorem d_Mo_rim_35 : decode b_Mo_rim 35 = .ok (.iload_n 2, 1) := by decide +kernel
theorem d_Mo_rim_36 : decode b_Mo_rim 36 = .ok (.aload_n 0, 1) := by decide +kernel
theorem d_Mo_rim_37 : decode b_Mo_rim 37 = .ok (.getfield 29, 3) := by decide +kernel
theorem d_Mo_rim_40 : decode b_Mo_rim 40 = .ok (.iload_n 1, 1) := by decide +kernel
theorem d_Mo_rim_41 : decode b_Mo_rim 41 = .ok (.iaload, 1) := by decide +kernel
theorem d_Mo_rim_42 : decode b_Mo_rim 42 = .ok (.iconst 1, 1) := by decide +kernel
theorem d_Mo_rim_43 : decode b_Mo_rim 43 = .ok (.isub, 1) := by decide +kernel
theorem d_Mo_rim_44 : decode b_Mo_rim 44 = .ok (.invokevirtual 132, 3) := by decide +kernel
theorem d_Mo_rim_47 : decode b_Mo_rim 47 = .ok (.ireturn, 1) := by decide +kernel
def q_Mo_rim (a1 : Int32) (a2 : Int32) (M : Mem) (post : Int32 → Mem → Prop) : Prop := q_Mo_isForm a1 M (fun r2 M1 => (r2 = 0 → post (-2 : Int32) M1) ∧ (¬ r2 = 0 → q_Mo_isForm a2 M1 (fun r4 M3 => (¬ r4 = 0 → vp_in a1 12 ∧ ((¬ (M3.1 62 a1.toNatClampNeg) = 0 → q_Mo_makeRim a1 M3 (fun M5 => vp_in a1 12 ∧ (q_Mo_becomes a2 ((M5.1 62 a1.toNatClampNeg) - (1 : Int32)) M5 (fun r7 M6 => post r7 M6)))) ∧ ((M3.1 62 a1.toNatClampNeg) = 0 → post (-3 : Int32) M3))) ∧ (r4 = 0 → post (-2 : Int32) M3))))
set_option maxHeartbeats 4000000 in
theorem s_Mo_rim {l : Launch} {κ : Kp} {a1 : Int32} {a2 : Int32} {M : Mem} {post : Int32 → Mem → Prop} (hq : q_Mo_rim a1 a2 M post) : Ct l κ y_Mo_rim b_Mo_rim 3 (some .int) 2 [.ref (κ.1 + 56), .int a1, .int a2] M (pI post) := by
  refine Ct_of (by decide) (Nat.le_of_ble_eq_true rfl) (fun γ hγ C R => ?_)
  subst hγ
  unfold q_Mo_rim at hq
  show G γ κ 3 (0, 0) (Gq γ κ (pI post)) 0 [(0, .ref (κ.1 + 56)), (1, .int a1), (2, .int a2)] [] M
  refine G_iload_n C 1 d_Mo_rim_0 rfl rfl ?_
  refine G_callS C (s_Mo_isForm hq) v_Mo_isForm z_Mo_isForm wd_636 (by decide) rfl (rest := []) (by rfl) (Nat.le_of_ble_eq_true rfl) d_Mo_rim_1 (ki_ (fun r2 M1 hq => ?_))
  refine G_if_eq C (tgt := 14) d_Mo_rim_4 (by decide) (fun c => ?_) (fun c => ?_)
  · replace hq := hq.1 c
    refine G_bipush C (v := -2) d_Mo_rim_14 (by decide) ?_
    exact G_iret C R d_Mo_rim_16 ⟨_, rfl, hq⟩
  · replace hq := hq.2 c
    refine G_iload_n C 2 d_Mo_rim_7 rfl rfl ?_
    refine G_callS C (s_Mo_isForm hq) v_Mo_isForm z_Mo_isForm wd_636 (by decide) rfl (rest := []) (by rfl) (Nat.le_of_ble_eq_true rfl) d_Mo_rim_8 (ki_ (fun r4 M3 hq => ?_))
    refine G_if_ne C (tgt := 17) d_Mo_rim_11 (by decide) (fun c => ?_) (fun c => ?_)
    · replace hq := hq.1 c
      refine G_aload_n C 0 d_Mo_rim_17 rfl rfl ?_
      refine Gg_Mo_degree C wd_529 d_Mo_rim_18 ?_
      refine G_iload_n C 1 d_Mo_rim_21 rfl rfl ?_
      refine G_iaload C (k := 62) (by decide) (fun _ _ => rfl) hq.1 d_Mo_rim_22 ?_
      replace hq := hq.2
      refine G_if_ne C (tgt := 29) d_Mo_rim_23 (by decide) (fun c => ?_) (fun c => ?_)
      · replace hq := hq.1 c
        refine G_aload_n C 0 d_Mo_rim_29 rfl rfl ?_
        refine G_iload_n C 1 d_Mo_rim_30 rfl rfl ?_
        refine G_callV C (s_Mo_makeRim hq) v_Mo_makeRim i_Mo_makeRim z_Mo_makeRim wd_684 (by decide) rfl (k := 56) (ci := 7) (by decide) rfl rfl rfl (rest := []) (by rfl) (Nat.le_of_ble_eq_true rfl) d_Mo_rim_31 (kv_ (fun M5 hq => ?_))
        refine G_aload_n C 0 d_Mo_rim_34 rfl rfl ?_
        refine G_iload_n C 2 d_Mo_rim_35 rfl rfl ?_
        refine G_aload_n C 0 d_Mo_rim_36 rfl rfl ?_
        refine Gg_Mo_degree C wd_529 d_Mo_rim_37 ?_
        refine G_iload_n C 1 d_Mo_rim_40 rfl rfl ?_
        refine G_iaload C (k := 62) (by decide) (fun _ _ => rfl) hq.1 d_Mo_rim_41 ?_
        replace hq := hq.2
        refine G_iconst C (v := 1) d_Mo_rim_42 (by decide) ?_
        refine G_isub C d_Mo_rim_43 ?_
        refine G_callV C (s_Mo_becomes hq) v_Mo_becomes i_Mo_becomes z_Mo_becomes wd_676 (by decide) rfl (k := 56) (ci := 7) (by decide) rfl rfl rfl (rest := []) (by rfl) (Nat.le_of_ble_eq_true rfl) d_Mo_rim_44 (ki_ (fun r7 M6 hq => ?_))
        exact G_iret C R d_Mo_rim_47 ⟨_, rfl, hq⟩
      · replace hq := hq.2 c
        refine G_bipush C (v := -3) d_Mo_rim_26 (by decide) ?_
        exact G_iret C R d_Mo_rim_28 ⟨_, rfl, hq⟩
    · replace hq := hq.2 c
      refine G_bipush C (v := -2) d_Mo_rim_14 (by decide) ?_
      exact G_iret C R d_Mo_rim_16 ⟨_, rfl, hq⟩
theorem d_Mo_cupAt_0 : decode b_Mo_cupAt 0 = .ok (.aload_n 0, 1) := by decide +kernel
theorem d_Mo_cupAt_1 : decode b_Mo_cupAt 1 = .ok (.getfield 29, 3) := by decide +kernel
theorem d_Mo_cupAt_4 : decode b_Mo_cupAt 4 = .ok (.iload_n 1, 1) := by decide +kernel
theorem d_Mo_cupAt_5 : decode b_Mo_cupAt 5 = .ok (.iaload, 1) := by decide +kernel
theorem d_Mo_cupAt_6 : decode b_Mo_cupAt 6 = .ok (.istore 4, 2) := by decide +kernel
theorem d_Mo_cupAt_8 : decode b_Mo_cupAt 8 = .ok (.aload_n 0, 1) := by decide +kernel
theorem d_Mo_cupAt_9 : decode b_Mo_cupAt 9 = .ok (.getfield 29, 3) := by decide +kernel
theorem d_Mo_cupAt_12 : decode b_Mo_cupAt 12 = .ok (.iload_n 2, 1) := by decide +kernel
theorem d_Mo_cupAt_13 : decode b_Mo_cupAt 13 = .ok (.iaload, 1) := by decide +kernel
theorem d_Mo_cupAt_14 : decode b_Mo_cupAt 14 = .ok (.istore 5, 2) := by decide +kernel
theorem d_Mo_cupAt_16 : decode b_Mo_cupAt 16 = .ok (.iload 4, 2) := by decide +kernel
theorem d_Mo_cupAt_18 : decode b_Mo_cupAt 18 = .ok (.iload 5, 2) := by decide +kernel
theorem d_Mo_cupAt_20 : decode b_Mo_cupAt 20 = .ok (.iadd, 1) := by decide +kernel
theorem d_Mo_cupAt_21 : decode b_Mo_cupAt 21 = .ok (.ifCond .ne 17, 3) := by decide +kernel
theorem d_Mo_cupAt_24 : decode b_Mo_cupAt 24 = .ok (.aload_n 0, 1) := by decide +kernel
theorem d_Mo_cupAt_25 : decode b_Mo_cupAt 25 = .ok (.iload_n 1, 1) := by decide +kernel
theorem d_Mo_cupAt_26 : decode b_Mo_cupAt 26 = .ok (.iload_n 3, 1) := by decide +kernel
theorem d_Mo_cupAt_27 : decode b_Mo_cupAt 27 = .ok (.invokevirtual 120, 3) := by decide +kernel
theorem d_Mo_cupAt_30 : decode b_Mo_cupAt 30 = .ok (.aload_n 0, 1) := by decide +kernel
theorem d_Mo_cupAt_31 : decode b_Mo_cupAt 31 = .ok (.iload_n 2, 1) := by decide +kernel
theorem d_Mo_cupAt_32 : decode b_Mo_cupAt 32 = .ok (.iload_n 3, 1) := by decide +kernel
theorem d_Mo_cupAt_33 : decode b_Mo_cupAt 33 = .ok (.invokevirtual 120, 3) := by decide +kernel
theorem d_Mo_cupAt_36 : decode b_Mo_cupAt 36 = .ok (.lmul, 1) := by decide +kernel
theorem d_Mo_cupAt_37 : decode b_Mo_cupAt 37 = .ok (.lreturn, 1) := by decide +kernel
theorem d_Mo_cupAt_38 : decode b_Mo_cupAt 38 = .ok (.iload 4, 2) := by decide +kernel
theorem d_Mo_cupAt_40 : decode b_Mo_cupAt 40 = .ok (.iload 5, 2) := by decide +kernel
theorem d_Mo_cupAt_42 : decode b_Mo_cupAt 42 = .ok (.iadd, 1) := by decide +kernel
theorem d_Mo_cupAt_43 : decode b_Mo_cupAt 43 = .ok (.iconst 1, 1) := by decide +kernel
theorem d_Mo_cupAt_44 : decode b_Mo_cupAt 44 = .ok (.if_icmp .ne 48, 3) := by decide +kernel
theorem d_Mo_cupAt_47 : decode b_Mo_cupAt 47 = .ok (.iload 4, 2) := by decide +kernel
theorem d_Mo_cupAt_49 : decode b_Mo_cupAt 49 = .ok (.ifCond .ne 24, 3) := by decide +kernel
theorem d_Mo_cupAt_52 : decode b_Mo_cupAt 52 = .ok (.aload_n 0, 1) := by decide +kernel
theorem d_Mo_cupAt_53 : decode b_Mo_cupAt 53 = .ok (.iload_n 1, 1) := by decide +kernel
theorem d_Mo_cupAt_54 : decode b_Mo_cupAt 54 = .ok (.aload_n 0, 1) := by decide +kernel
theorem d_Mo_cupAt_55 : decode b_Mo_cupAt 55 = .ok (.getfield 13, 3) := by decide +kernel
theorem d_Mo_cupAt_58 : decode b_Mo_cupAt 58 = .ok (.iload_n 3, 1) := by decide +kernel
theorem d_Mo_cupAt_59 : decode b_Mo_cupAt 59 = .ok (.iaload, 1) := by decide +kernel
theorem d_Mo_cupAt_60 : decode b_Mo_cupAt 60 = .ok (.invokevirtual 120, 3) := by decide +kernel
theorem d_Mo_cupAt_63 : decode b_Mo_cupAt 63 = .ok (.aload_n 0, 1) := by decide +kernel
theorem d_Mo_cupAt_64 : decode b_Mo_cupAt 64 = .ok (.iload_n 2, 1) := by decide +kernel
theorem d_Mo_cupAt_65 : decode b_Mo_cupAt 65 = .ok (.iload_n 3, 1) := by decide +kernel
theorem d_Mo_cupAt_66 : decode b_Mo_cupAt 66 = .ok (.invokevirtual 120, 3) := by decide +kernel
theorem d_Mo_cupAt_69 : decode b_Mo_cupAt 69 = .ok (.lmul, 1) := by decide +kernel
theorem d_Mo_cupAt_70 : decode b_Mo_cupAt 70 = .ok (.goto 21, 3) := by decide +kernel
theorem d_Mo_cupAt_73 : decode b_Mo_cupAt 73 = .ok (.aload_n 0, 1) := by decide +kernel
theorem d_Mo_cupAt_74 : decode b_Mo_cupAt 74 = .ok (.iload_n 1, 1) := by decide +kernel
theorem d_Mo_cupAt_75 : decode b_Mo_cupAt 75 = .ok (.iload_n 3, 1) := by decide +kernel
theorem d_Mo_cupAt_76 : decode b_Mo_cupAt 76 = .ok (.invokevirtual 120, 3) := by decide +kernel
theorem d_Mo_cupAt_79 : decode b_Mo_cupAt 79 = .ok (.aload_n 0, 1) := by decide +kernel
theorem d_Mo_cupAt_80 : decode b_Mo_cupAt 80 = .ok (.iload_n 2, 1) := by decide +kernel
theorem d_Mo_cupAt_81 : decode b_Mo_cupAt 81 = .ok (.aload_n 0, 1) := by decide +kernel
theorem d_Mo_cupAt_82 : decode b_Mo_cupAt 82 = .ok (.getfield 17, 3) := by decide +kernel
theorem d_Mo_cupAt_85 : decode b_Mo_cupAt 85 = .ok (.iload_n 3, 1) := by decide +kernel
theorem d_Mo_cupAt_86 : decode b_Mo_cupAt 86 = .ok (.iaload, 1) := by decide +kernel
theorem d_Mo_cupAt_87 : decode b_Mo_cupAt 87 = .ok (.invokevirtual 120, 3) := by decide +kernel
theorem d_Mo_cupAt_90 : decode b_Mo_cupAt 90 = .ok (.lmul, 1) := by decide +kernel
theorem d_Mo_cupAt_91 : decode b_Mo_cupAt 91 = .ok (.lreturn, 1) := by decide +kernel
theorem d_Mo_cupAt_92 : decode b_Mo_cupAt 92 = .ok (.iload 4, 2) := by decide +kernel
theorem d_Mo_cupAt_94 : decode b_Mo_cupAt 94 = .ok (.iconst 1, 1) := by decide +kernel
theorem d_Mo_cupAt_95 : decode b_Mo_cupAt 95 = .ok (.if_icmp .ne 39, 3) := by decide +kernel
theorem d_Mo_cupAt_98 : decode b_Mo_cupAt 98 = .ok (.aload_n 0, 1) := by decide +kernel
theorem d_Mo_cupAt_99 : decode b_Mo_cupAt 99 = .ok (.iload_n 1, 1) := by decide +kernel
theorem d_Mo_cupAt_100 : decode b_Mo_cupAt 100 = .ok (.aload_n 0, 1) := by decide +kernel
theorem d_Mo_cupAt_101 : decode b_Mo_cupAt 101 = .ok (.getfield 20, 3) := by decide +kernel
theorem d_Mo_cupAt_104 : decode b_Mo_cupAt 104 = .ok (.iload_n 3, 1) := by decide +kernel
theorem d_Mo_cupAt_105 : decode b_Mo_cupAt 105 = .ok (.iaload, 1) := by decide +kernel
theorem d_Mo_cupAt_106 : decode b_Mo_cupAt 106 = .ok (.aload_n 0, 1) := by decide +kernel
theorem d_Mo_cupAt_107 : decode b_Mo_cupAt 107 = .ok (.getfield 23, 3) := by decide +kernel
theorem d_Mo_cupAt_110 : decode b_Mo_cupAt 110 = .ok (.iload_n 3, 1) := by decide +kernel
theorem d_Mo_cupAt_111 : decode b_Mo_cupAt 111 = .ok (.iaload, 1) := by decide +kernel
theorem d_Mo_cupAt_112 : decode b_Mo_cupAt 112 = .ok (.invokevirtual 124, 3) := by decide +kernel
theorem d_Mo_cupAt_115 : decode b_Mo_cupAt 115 = .ok (.aload_n 0, 1) := by decide +kernel
theorem d_Mo_cupAt_116 : decode b_Mo_cupAt 116 = .ok (.iload_n 2, 1) := by decide +kernel
theorem d_Mo_cupAt_117 : decode b_Mo_cupAt 117 = .ok (.aload_n 0, 1) := by decide +kernel
theorem d_Mo_cupAt_118 : decode b_Mo_cupAt 118 = .ok (.getfield 23, 3) := by decide +kernel
theorem d_Mo_cupAt_121 : decode b_Mo_cupAt 121 = .ok (.iload_n 3, 1) := by decide +kernel
theorem d_Mo_cupAt_122 : decode b_Mo_cupAt 122 = .ok (.iaload, 1) := by decide +kernel
theorem d_Mo_cupAt_123 : decode b_Mo_cupAt 123 = .ok (.aload_n 0, 1) := by decide +kernel
theorem d_Mo_cupAt_124 : decode b_Mo_cupAt 124 = .ok (.getfield 26, 3) := by decide +kernel
theorem d_Mo_cupAt_127 : decode b_Mo_cupAt 127 = .ok (.iload_n 3, 1) := by decide +kernel
theorem d_Mo_cupAt_128 : decode b_Mo_cupAt 128 = .ok (.iaload, 1) := by decide +kernel
theorem d_Mo_cupAt_129 : decode b_Mo_cupAt 129 = .ok (.invokevirtual 124, 3) := by decide +kernel
theorem d_Mo_cupAt_132 : decode b_Mo_cupAt 132 = .ok (.lmul, 1) := by decide +kernel
theorem d_Mo_cupAt_133 : decode b_Mo_cupAt 133 = .ok (.lreturn, 1) := by decide +kernel
theorem d_Mo_cupAt_134 : decode b_Mo_cupAt 134 = .ok (.iload 4, 2) := by decide +kernel
theorem d_Mo_cupAt_136 : decode b_Mo_cupAt 136 = .ok (.ifCond .ne 24, 3) := by decide +kernel
theorem d_Mo_cupAt_139 : decode b_Mo_cupAt 139 = .ok (.aload_n 0, 1) := by decide +kernel
theorem d_Mo_cupAt_140 : decode b_Mo_cupAt 140 = .ok (.iload_n 1, 1) := by decide +kernel
theorem d_Mo_cupAt_141 : decode b_Mo_cupAt 141 = .ok (.aload_n 0, 1) := by decide +kernel
theorem d_Mo_cupAt_142 : decode b_Mo_cupAt 142 = .ok (.getfield 20, 3) := by decide +kernel
theorem d_Mo_cupAt_145 : decode b_Mo_cupAt 145 = .ok (.iload_n 3, 1) := by decide +kernel
theorem d_Mo_cupAt_146 : decode b_Mo_cupAt 146 = .ok (.iaload, 1) := by decide +kernel
theorem d_Mo_cupAt_147 : decode b_Mo_cupAt 147 = .ok (.invokevirtual 120, 3) := by decide +kernel
theorem d_Mo_cupAt_150 : decode b_Mo_cupAt 150 = .ok (.aload_n 0, 1) := by decide +kernel
theorem d_Mo_cupAt_151 : decode b_Mo_cupAt 151 = .ok (.iload_n 2, 1) := by decide +kernel
theorem d_Mo_cupAt_152 : decode b_Mo_cupAt 152 = .ok (.iload_n 3, 1) := by decide +kernel
theorem d_Mo_cupAt_153 : decode b_Mo_cupAt 153 = .ok (.invokevirtual 120, 3) := by decide +kernel
theorem d_Mo_cupAt_156 : decode b_Mo_cupAt 156 = .ok (.lmul, 1) := by decide +kernel
theorem d_Mo_cupAt_157 : decode b_Mo_cupAt 157 = .ok (.goto 21, 3) := by decide +kernel
theorem d_Mo_cupAt_160 : decode b_Mo_cupAt 160 = .ok (.aload_n 0, 1) := by decide +kernel
theorem d_Mo_cupAt_161 : decode b_Mo_cupAt 161 = .ok (.iload_n 1, 1) := by decide +kernel
theorem d_Mo_cupAt_162 : decode b_Mo_cupAt 162 = .ok (.iload_n 3, 1) := by decide +kernel
theorem d_Mo_cupAt_163 : decode b_Mo_cupAt 163 = .ok (.invokevirtual 120, 3) := by decide +kernel
theorem d_Mo_cupAt_166 : decode b_Mo_cupAt 166 = .ok (.aload_n 0, 1) := by decide +kernel
theorem d_Mo_cupAt_167 : decode b_Mo_cupAt 167 = .ok (.iload_n 2, 1) := by decide +kernel
theorem d_Mo_cupAt_168 : decode b_Mo_cupAt 168 = .ok (.aload_n 0, 1) := by decide +kernel
theorem d_Mo_cupAt_169 : decode b_Mo_cupAt 169 = .ok (.getfield 26, 3) := by decide +kernel
theorem d_Mo_cupAt_172 : decode b_Mo_cupAt 172 = .ok (.iload_n 3, 1) := by decide +kernel
theorem d_Mo_cupAt_173 : decode b_Mo_cupAt 173 = .ok (.iaload, 1) := by decide +kernel
theorem d_Mo_cupAt_174 : decode b_Mo_cupAt 174 = .ok (.invokevirtual 120, 3) := by decide +kernel
theorem d_Mo_cupAt_177 : decode b_Mo_cupAt 177 = .ok (.lmul, 1) := by decide +kernel
theorem d_Mo_cupAt_178 : decode b_Mo_cupAt 178 = .ok (.lreturn, 1) := by decide +kernel
def q_Mo_cupAt (a1 : Int32) (a2 : Int32) (a3 : Int32) (M : Mem) (post : Int64 → Mem → Prop) : Prop := vp_in a1 12 ∧ (vp_in a2 12 ∧ ((¬ ((M.1 62 a1.toNatClampNeg) + (M.1 62 a2.toNatClampNeg)) = 0 → (¬ ((M.1 62 a1.toNatClampNeg) + (M.1 62 a2.toNatClampNeg)) = (1 : Int32) → (¬ (M.1 62 a1.toNatClampNeg) = (1 : Int32) → (¬ (M.1 62 a1.toNatClampNeg) = 0 → q_Mo_at a1 a3 M (fun r2 M1 => vp_in a3 10 ∧ (q_Mo_at a2 (M1.1 61 a3.toNatClampNeg) M1 (fun r4 M3 => post (r2 * r4) M3)))) ∧ ((M.1 62 a1.toNatClampNeg) = 0 → vp_in a3 10 ∧ (q_Mo_at a1 (M.1 59 a3.toNatClampNeg) M (fun r6 M5 => q_Mo_at a2 a3 M5 (fun r8 M7 => post (r6 * r8) M7))))) ∧ ((M.1 62 a1.toNatClampNeg) = (1 : Int32) → vp_in a3 10 ∧ (vp_in a3 10 ∧ (q_Mo_onEdge a1 (M.1 59 a3.toNatClampNeg) (M.1 60 a3.toNatClampNeg) M (fun r10 M9 => vp_in a3 10 ∧ (vp_in a3 10 ∧ (q_Mo_onEdge a2 (M9.1 60 a3.toNatClampNeg) (M9.1 61 a3.toNatClampNeg) M9 (fun r12 M11 => post (r10 * r12) M11)))))))) ∧ (((M.1 62 a1.toNatClampNeg) + (M.1 62 a2.toNatClampNeg)) = (1 : Int32) → (¬ (M.1 62 a1.toNatClampNeg) = 0 → q_Mo_at a1 a3 M (fun r14 M13 => vp_in a3 12 ∧ (q_Mo_at a2 (M13.1 58 a3.toNatClampNeg) M13 (fun r16 M15 => post (r14 * r16) M15)))) ∧ ((M.1 62 a1.toNatClampNeg) = 0 → vp_in a3 12 ∧ (q_Mo_at a1 (M.1 57 a3.toNatClampNeg) M (fun r18 M17 => q_Mo_at a2 a3 M17 (fun r20 M19 => post (r18 * r20) M19)))))) ∧ (((M.1 62 a1.toNatClampNeg) + (M.1 62 a2.toNatClampNeg)) = 0 → q_Mo_at a1 a3 M (fun r22 M21 => q_Mo_at a2 a3 M21 (fun r24 M23 => post (r22 * r24) M23)))))
set_option maxHeartbeats 4000000 in
theorem s_Mo_cupAt {l : Launch} {κ : Kp} {a1 : Int32} {a2 : Int32} {a3 : Int32} {M : Mem} {post : Int64 → Mem → Prop} (hq : q_Mo_cupAt a1 a2 a3 M post) : Ct l κ y_Mo_cupAt b_Mo_cupAt 6 (some .long) 2 [.ref (κ.1 + 56), .int a1, .int a2, .int a3] M (pJ post) := by
  refine Ct_of (by decide) (Nat.le_of_ble_eq_true rfl) (fun γ hγ C R => ?_)
  subst hγ
  unfold q_Mo_cupAt at hq
  show G γ κ 6 (0, 0) (Gq γ κ (pJ post)) 0 [(0, .ref (κ.1 + 56)), (1, .int a1), (2, .int a2), (3, .int a3)] [] M
  refine G_aload_n C 0 d_Mo_cupAt_0 rfl rfl ?_
  refine Gg_Mo_degree C wd_529 d_Mo_cupAt_1 ?_
  refine G_iload_n C 1 d_Mo_cupAt_4 rfl rfl ?_
  refine G_iaload C (k := 62) (by decide) (fun _ _ => rfl) hq.1 d_Mo_cupAt_5 ?_
  replace hq := hq.2
  refine G_istore C (lv' := [(4, _), (0, _), (1, _), (2, _), (3, _)]) d_Mo_cupAt_6 (by decide) rfl ?_
  refine G_aload_n C 1 d_Mo_cupAt_8 rfl rfl ?_
  refine Gg_Mo_degree C wd_529 d_Mo_cupAt_9 ?_
  refine G_iload_n C 3 d_Mo_cupAt_12 rfl rfl ?_
  refine G_iaload C (k := 62) (by decide) (fun _ _ => rfl) hq.1 d_Mo_cupAt_13 ?_
  replace hq := hq.2
  refine G_istore C (lv' := [(5, _), (4, _), (0, _), (1, _), (2, _), (3, _)]) d_Mo_cupAt_14 (by decide) rfl ?_
  refine G_iload C 1 d_Mo_cupAt_16 rfl ?_
  refine G_iload C 0 d_Mo_cupAt_18 rfl ?_
  refine G_iadd C d_Mo_cupAt_20 ?_
  refine G_if_ne C (tgt := 38) d_Mo_cupAt_21 (by decide) (fun c => ?_) (fun c => ?_)
  · replace hq := hq.1 c
    refine G_iload C 1 d_Mo_cupAt_38 rfl ?_
    refine G_iload C 0 d_Mo_cupAt_40 rfl ?_
    refine G_iadd C d_Mo_cupAt_42 ?_
    refine G_iconst C (v := 1) d_Mo_cupAt_43 (by decide) ?_
    refine G_icmp_ne C (tgt := 92) d_Mo_cupAt_44 (by decide) (fun c => ?_) (fun c => ?_)
    · replace hq := hq.1 c
      refine G_iload C 1 d_Mo_cupAt_92 rfl ?_
      refine G_iconst C (v := 1) d_Mo_cupAt_94 (by decide) ?_
      refine G_icmp_ne C (tgt := 134) d_Mo_cupAt_95 (by decide) (fun c => ?_) (fun c => ?_)
      · replace hq := hq.1 c
        refine G_iload C 1 d_Mo_cupAt_134 rfl ?_
        refine G_if_ne C (tgt := 160) d_Mo_cupAt_136 (by decide) (fun c => ?_) (fun c => ?_)
        · replace hq := hq.1 c
          refine G_aload_n C 2 d_Mo_cupAt_160 rfl rfl ?_
          refine G_iload_n C 3 d_Mo_cupAt_161 rfl rfl ?_
          refine G_iload_n C 5 d_Mo_cupAt_162 rfl rfl ?_
          refine G_callV C (s_Mo_at hq) v_Mo_at i_Mo_at z_Mo_at wd_668 (by decide) rfl (k := 56) (ci := 7) (by decide) rfl rfl rfl (rest := []) (by rfl) (Nat.le_of_ble_eq_true rfl) d_Mo_cupAt_163 (kj_ (fun r2 M1 hq => ?_))
          refine G_aload_n C 2 d_Mo_cupAt_166 rfl rfl ?_
          refine G_iload_n C 4 d_Mo_cupAt_167 rfl rfl ?_
          refine G_aload_n C 2 d_Mo_cupAt_168 rfl rfl ?_
          refine Gg_Mo_third C wd_528 d_Mo_cupAt_169 ?_
          refine G_iload_n C 5 d_Mo_cupAt_172 rfl rfl ?_
          refine G_iaload C (k := 61) (by decide) (fun _ _ => rfl) hq.1 d_Mo_cupAt_173 ?_
          replace hq := hq.2
          refine G_callV C (s_Mo_at hq) v_Mo_at i_Mo_at z_Mo_at wd_668 (by decide) rfl (k := 56) (ci := 7) (by decide) rfl rfl rfl (rest := [_]) (by rfl) (Nat.le_of_ble_eq_true rfl) d_Mo_cupAt_174 (kj_ (fun r4 M3 hq => ?_))
          refine G_lmul C d_Mo_cupAt_177 ?_
          exact G_lret C R d_Mo_cupAt_178 ⟨_, rfl, hq⟩
        · replace hq := hq.2 c
          refine G_aload_n C 2 d_Mo_cupAt_139 rfl rfl ?_
          refine G_iload_n C 3 d_Mo_cupAt_140 rfl rfl ?_
          refine G_aload_n C 2 d_Mo_cupAt_141 rfl rfl ?_
          refine Gg_Mo_first C wd_526 d_Mo_cupAt_142 ?_
          refine G_iload_n C 5 d_Mo_cupAt_145 rfl rfl ?_
          refine G_iaload C (k := 59) (by decide) (fun _ _ => rfl) hq.1 d_Mo_cupAt_146 ?_
          replace hq := hq.2
          refine G_callV C (s_Mo_at hq) v_Mo_at i_Mo_at z_Mo_at wd_668 (by decide) rfl (k := 56) (ci := 7) (by decide) rfl rfl rfl (rest := []) (by rfl) (Nat.le_of_ble_eq_true rfl) d_Mo_cupAt_147 (kj_ (fun r6 M5 hq => ?_))
          refine G_aload_n C 2 d_Mo_cupAt_150 rfl rfl ?_
          refine G_iload_n C 4 d_Mo_cupAt_151 rfl rfl ?_
          refine G_iload_n C 5 d_Mo_cupAt_152 rfl rfl ?_
          refine G_callV C (s_Mo_at hq) v_Mo_at i_Mo_at z_Mo_at wd_668 (by decide) rfl (k := 56) (ci := 7) (by decide) rfl rfl rfl (rest := [_]) (by rfl) (Nat.le_of_ble_eq_true rfl) d_Mo_cupAt_153 (kj_ (fun r8 M7 hq => ?_))
          refine G_lmul C d_Mo_cupAt_156 ?_
          refine G_goto C (tgt := 178) d_Mo_cupAt_157 (by decide) ?_
          exact G_lret C R d_Mo_cupAt_178 ⟨_, rfl, hq⟩
      · replace hq := hq.2 c
        refine G_aload_n C 2 d_Mo_cupAt_98 rfl rfl ?_
        refine G_iload_n C 3 d_Mo_cupAt_99 rfl rfl ?_
        refine G_aload_n C 2 d_Mo_cupAt_100 rfl rfl ?_
        refine Gg_Mo_first C wd_526 d_Mo_cupAt_101 ?_
        refine G_iload_n C 5 d_Mo_cupAt_104 rfl rfl ?_
        refine G_iaload C (k := 59) (by decide) (fun _ _ => rfl) hq.1 d_Mo_cupAt_105 ?_
        replace hq := hq.2
        refine G_aload_n C 2 d_Mo_cupAt_106 rfl rfl ?_
        refine Gg_Mo_second C wd_527 d_Mo_cupAt_107 ?_
        refine G_iload_n C 5 d_Mo_cupAt_110 rfl rfl ?_
        refine G_iaload C (k := 60) (by decide) (fun _ _ => rfl) hq.1 d_Mo_cupAt_111 ?_
        replace hq := hq.2
        refine G_callV C (s_Mo_onEdge hq) v_Mo_onEdge i_Mo_onEdge z_Mo_onEdge wd_672 (by decide) rfl (k := 56) (ci := 7) (by decide) rfl rfl rfl (rest := []) (by rfl) (Nat.le_of_ble_eq_true rfl) d_Mo_cupAt_112 (kj_ (fun r10 M9 hq => ?_))
        refine G_aload_n C 2 d_Mo_cupAt_115 rfl rfl ?_
        refine G_iload_n C 4 d_Mo_cupAt_116 rfl rfl ?_
        refine G_aload_n C 2 d_Mo_cupAt_117 rfl rfl ?_
        refine Gg_Mo_second C wd_527 d_Mo_cupAt_118 ?_
        refine G_iload_n C 5 d_Mo_cupAt_121 rfl rfl ?_
        refine G_iaload C (k := 60) (by decide) (fun _ _ => rfl) hq.1 d_Mo_cupAt_122 ?_
        replace hq := hq.2
        refine G_aload_n C 2 d_Mo_cupAt_123 rfl rfl ?_
        refine Gg_Mo_third C wd_528 d_Mo_cupAt_124 ?_
        refine G_iload_n C 5 d_Mo_cupAt_127 rfl rfl ?_
        refine G_iaload C (k := 61) (by decide) (fun _ _ => rfl) hq.1 d_Mo_cupAt_128 ?_
        replace hq := hq.2
        refine G_callV C (s_Mo_onEdge hq) v_Mo_onEdge i_Mo_onEdge z_Mo_onEdge wd_672 (by decide) rfl (k := 56) (ci := 7) (by decide) rfl rfl rfl (rest := [_]) (by rfl) (Nat.le_of_ble_eq_true rfl) d_Mo_cupAt_129 (kj_ (fun r12 M11 hq => ?_))
        refine G_lmul C d_Mo_cupAt_132 ?_
        exact G_lret C R d_Mo_cupAt_133 ⟨_, rfl, hq⟩
    · replace hq := hq.2 c
      refine G_iload C 1 d_Mo_cupAt_47 rfl ?_
      refine G_if_ne C (tgt := 73) d_Mo_cupAt_49 (by decide) (fun c => ?_) (fun c => ?_)
      · replace hq := hq.1 c
        refine G_aload_n C 2 d_Mo_cupAt_73 rfl rfl ?_
        refine G_iload_n C 3 d_Mo_cupAt_74 rfl rfl ?_
        refine G_iload_n C 5 d_Mo_cupAt_75 rfl rfl ?_
        refine G_callV C (s_Mo_at hq) v_Mo_at i_Mo_at z_Mo_at wd_668 (by decide) rfl (k := 56) (ci := 7) (by decide) rfl rfl rfl (rest := []) (by rfl) (Nat.le_of_ble_eq_true rfl) d_Mo_cupAt_76 (kj_ (fun r14 M13 hq => ?_))
        refine G_aload_n C 2 d_Mo_cupAt_79 rfl rfl ?_
        refine G_iload_n C 4 d_Mo_cupAt_80 rfl rfl ?_
        refine G_aload_n C 2 d_Mo_cupAt_81 rfl rfl ?_
        refine Gg_Mo_end C wd_525 d_Mo_cupAt_82 ?_
        refine G_iload_n C 5 d_Mo_cupAt_85 rfl rfl ?_
        refine G_iaload C (k := 58) (by decide) (fun _ _ => rfl) hq.1 d_Mo_cupAt_86 ?_
        replace hq := hq.2
        refine G_callV C (s_Mo_at hq) v_Mo_at i_Mo_at z_Mo_at wd_668 (by decide) rfl (k := 56) (ci := 7) (by decide) rfl rfl rfl (rest := [_]) (by rfl) (Nat.le_of_ble_eq_true rfl) d_Mo_cupAt_87 (kj_ (fun r16 M15 hq => ?_))
        refine G_lmul C d_Mo_cupAt_90 ?_
        exact G_lret C R d_Mo_cupAt_91 ⟨_, rfl, hq⟩
      · replace hq := hq.2 c
        refine G_aload_n C 2 d_Mo_cupAt_52 rfl rfl ?_
        refine G_iload_n C 3 d_Mo_cupAt_53 rfl rfl ?_
        refine G_aload_n C 2 d_Mo_cupAt_54 rfl rfl ?_
        refine Gg_Mo_begin C wd_524 d_Mo_cupAt_55 ?_
        refine G_iload_n C 5 d_Mo_cupAt_58 rfl rfl ?_
        refine G_iaload C (k := 57) (by decide) (fun _ _ => rfl) hq.1 d_Mo_cupAt_59 ?_
        replace hq := hq.2
        refine G_callV C (s_Mo_at hq) v_Mo_at i_Mo_at z_Mo_at wd_668 (by decide) rfl (k := 56) (ci := 7) (by decide) rfl rfl rfl (rest := []) (by rfl) (Nat.le_of_ble_eq_true rfl) d_Mo_cupAt_60 (kj_ (fun r18 M17 hq => ?_))
        refine G_aload_n C 2 d_Mo_cupAt_63 rfl rfl ?_
        refine G_iload_n C 4 d_Mo_cupAt_64 rfl rfl ?_
        refine G_iload_n C 5 d_Mo_cupAt_65 rfl rfl ?_
        refine G_callV C (s_Mo_at hq) v_Mo_at i_Mo_at z_Mo_at wd_668 (by decide) rfl (k := 56) (ci := 7) (by decide) rfl rfl rfl (rest := [_]) (by rfl) (Nat.le_of_ble_eq_true rfl) d_Mo_cupAt_66 (kj_ (fun r20 M19 hq => ?_))
        refine G_lmul C d_Mo_cupAt_69 ?_
        refine G_goto C (tgt := 91) d_Mo_cupAt_70 (by decide) ?_
        exact G_lret C R d_Mo_cupAt_91 ⟨_, rfl, hq⟩
  · replace hq := hq.2 c
    refine G_aload_n C 2 d_Mo_cupAt_24 rfl rfl ?_
    refine G_iload_n C 3 d_Mo_cupAt_25 rfl rfl ?_
    refine G_iload_n C 5 d_Mo_cupAt_26 rfl rfl ?_
    refine G_callV C (s_Mo_at hq) v_Mo_at i_Mo_at z_Mo_at wd_668 (by decide) rfl (k := 56) (ci := 7) (by decide) rfl rfl rfl (rest := []) (by rfl) (Nat.le_of_ble_eq_true rfl) d_Mo_cupAt_27 (kj_ (fun r22 M21 hq => ?_))
    refine G_aload_n C 2 d_Mo_cupAt_30 rfl rfl ?_
    refine G_iload_n C 4 d_Mo_cupAt_31 rfl rfl ?_
    refine G_iload_n C 5 d_Mo_cupAt_32 rfl rfl ?_
    refine G_callV C (s_Mo_at hq) v_Mo_at i_Mo_at z_Mo_at wd_668 (by decide) rfl (k := 56) (ci := 7) (by decide) rfl rfl rfl (rest := [_]) (by rfl) (Nat.le_of_ble_eq_true rfl) d_Mo_cupAt_33 (kj_ (fun r24 M23 hq => ?_))
    refine G_lmul C d_Mo_cupAt_36 ?_
    exact G_lret C R d_Mo_cupAt_37 ⟨_, rfl, hq⟩
