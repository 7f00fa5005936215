/-! rows: an instruction each, over G -/
section GR
variable {γ : Gm} {κ : Kp} {own : String} {cc : ByteArray} {nL d : Nat} {z : Nat × Nat} {Q : State → Prop} {pc : Nat} {lv : List (Nat × Value)} {st : List Value} {M : Mem}
theorem G_iconst (C : Cx γ κ own cc nL d z) {n : Int} {v : Int32} (hd : decode cc pc = .ok (.iconst n, 1)) (hv : Int32.ofInt n = v) (k : G γ κ nL z Q (pc + 1) lv (.int v :: st) M) : G γ κ nL z Q pc lv (st) M := fun H locs ls hP hS hl => lv_iconst C.1 C.2.1 hd hv (k H locs ls hP hS hl)
theorem G_bipush (C : Cx γ κ own cc nL d z) {n : Int} {v : Int32} (hd : decode cc pc = .ok (.bipush n, 2)) (hv : (Int8.ofInt n).toInt32 = v) (k : G γ κ nL z Q (pc + 2) lv (.int v :: st) M) : G γ κ nL z Q pc lv (st) M := fun H locs ls hP hS hl => lv_bipush C.1 C.2.1 hd hv (k H locs ls hP hS hl)
theorem G_sipush (C : Cx γ κ own cc nL d z) {n : Int} {v : Int32} (hd : decode cc pc = .ok (.sipush n, 3)) (hv : (Int16.ofInt n).toInt32 = v) (k : G γ κ nL z Q (pc + 3) lv (.int v :: st) M) : G γ κ nL z Q pc lv (st) M := fun H locs ls hP hS hl => lv_sipush C.1 C.2.1 hd hv (k H locs ls hP hS hl)
theorem G_lconst (C : Cx γ κ own cc nL d z) {n : Fin 2} {v : Int64} (hd : decode cc pc = .ok (.lconst n, 1)) (hv : Int64.ofNat (n : Nat) = v) (k : G γ κ nL z Q (pc + 1) lv (.long v :: st) M) : G γ κ nL z Q pc lv (st) M := fun H locs ls hP hS hl => lv_lconst C.1 C.2.1 hd hv (k H locs ls hP hS hl)
theorem G_ldc (C : Cx γ κ own cc nL d z) {index : Nat} {v : Int32} (hw : Cond.constant own index v ∈ gw) (hd : decode cc pc = .ok (.ldc index, 2)) (k : G γ κ nL z Q (pc + 2) lv (.int v :: st) M) : G γ κ nL z Q pc lv (st) M := fun H locs ls hP hS hl => lv_ldc C.1 C.2.1 C.2.2.2.1 (C.2.2.2.2.1 _ hw) hd (k H locs ls hP hS hl)
theorem G_ldc2 (C : Cx γ κ own cc nL d z) {index : Nat} {v : Int64} (hw : Cond.constantLong own index v ∈ gw) (hd : decode cc pc = .ok (.ldc2_w index, 3)) (k : G γ κ nL z Q (pc + 3) lv (.long v :: st) M) : G γ κ nL z Q pc lv (st) M := fun H locs ls hP hS hl => lv_ldc2 C.1 C.2.1 C.2.2.2.1 (C.2.2.2.2.1 _ hw) hd (k H locs ls hP hS hl)
theorem G_iload_n (C : Cx γ κ own cc nL d z) {q : Fin 4} {i : Nat} {x : Int32} (n : Nat) (hd : decode cc pc = .ok (.iload_n q, 1)) (hi : (q : Nat) = i) (hx : lv[n]? = some (i, .int x)) (k : G γ κ nL z Q (pc + 1) lv (.int x :: st) M) : G γ κ nL z Q pc lv (st) M := fun H locs ls hP hS hl => lv_iload_n C.1 C.2.1 hd hi (lv_at hl n hx) (k H locs ls hP hS hl)
theorem G_iload (C : Cx γ κ own cc nL d z) {i : Nat} {x : Int32} (n : Nat) (hd : decode cc pc = .ok (.iload i, 2)) (hx : lv[n]? = some (i, .int x)) (k : G γ κ nL z Q (pc + 2) lv (.int x :: st) M) : G γ κ nL z Q pc lv (st) M := fun H locs ls hP hS hl => lv_iload C.1 C.2.1 hd (lv_at hl n hx) (k H locs ls hP hS hl)
theorem G_istore_n (C : Cx γ κ own cc nL d z) {q : Fin 4} {i : Nat} {x : Int32} {lv' : List (Nat × Value)} (hd : decode cc pc = .ok (.istore_n q, 1)) (hi : (q : Nat) = i) (hn : i < nL) (hv : (i, Value.int x) :: lv.filter (fun q => !(q.1 == i) && !(q.1 + 1 == i && q.2.category == 2)) = lv') (k : G γ κ nL z Q (pc + 1) lv' (st) M) : G γ κ nL z Q pc lv (.int x :: st) M := fun H locs ls hP hS hl => lv_istore_n C.1 C.2.1 hd hi hl hn hv (fun ls hl => k H locs ls hP hS hl)
theorem G_istore (C : Cx γ κ own cc nL d z) {i : Nat} {x : Int32} {lv' : List (Nat × Value)} (hd : decode cc pc = .ok (.istore i, 2)) (hn : i < nL) (hv : (i, Value.int x) :: lv.filter (fun q => !(q.1 == i) && !(q.1 + 1 == i && q.2.category == 2)) = lv') (k : G γ κ nL z Q (pc + 2) lv' (st) M) : G γ κ nL z Q pc lv (.int x :: st) M := fun H locs ls hP hS hl => lv_istore C.1 C.2.1 hd hl hn hv (fun ls hl => k H locs ls hP hS hl)
theorem G_lload_n (C : Cx γ κ own cc nL d z) {q : Fin 4} {i : Nat} {x : Int64} (n : Nat) (hd : decode cc pc = .ok (.lload_n q, 1)) (hi : (q : Nat) = i) (hx : lv[n]? = some (i, .long x)) (k : G γ κ nL z Q (pc + 1) lv (.long x :: st) M) : G γ κ nL z Q pc lv (st) M := fun H locs ls hP hS hl => lv_lload_n C.1 C.2.1 hd hi (lv_at hl n hx) (k H locs ls hP hS hl)
theorem G_lload (C : Cx γ κ own cc nL d z) {i : Nat} {x : Int64} (n : Nat) (hd : decode cc pc = .ok (.lload i, 2)) (hx : lv[n]? = some (i, .long x)) (k : G γ κ nL z Q (pc + 2) lv (.long x :: st) M) : G γ κ nL z Q pc lv (st) M := fun H locs ls hP hS hl => lv_lload C.1 C.2.1 hd (lv_at hl n hx) (k H locs ls hP hS hl)
theorem G_lstore_n (C : Cx γ κ own cc nL d z) {q : Fin 4} {i : Nat} {x : Int64} {lv' : List (Nat × Value)} (hd : decode cc pc = .ok (.lstore_n q, 1)) (hi : (q : Nat) = i) (hn : i + 1 < nL) (hv : (i, Value.long x) :: lv.filter (fun q => !(q.1 == i) && (!(q.1 == i + 1) && !(q.1 + 1 == i && q.2.category == 2))) = lv') (k : G γ κ nL z Q (pc + 1) lv' (st) M) : G γ κ nL z Q pc lv (.long x :: st) M := fun H locs ls hP hS hl => lv_lstore_n C.1 C.2.1 hd hi hl hn hv (fun ls hl => k H locs ls hP hS hl)
theorem G_lstore (C : Cx γ κ own cc nL d z) {i : Nat} {x : Int64} {lv' : List (Nat × Value)} (hd : decode cc pc = .ok (.lstore i, 2)) (hn : i + 1 < nL) (hv : (i, Value.long x) :: lv.filter (fun q => !(q.1 == i) && (!(q.1 == i + 1) && !(q.1 + 1 == i && q.2.category == 2))) = lv') (k : G γ κ nL z Q (pc + 2) lv' (st) M) : G γ κ nL z Q pc lv (.long x :: st) M := fun H locs ls hP hS hl => lv_lstore C.1 C.2.1 hd hl hn hv (fun ls hl => k H locs ls hP hS hl)
theorem G_aload_n (C : Cx γ κ own cc nL d z) {q : Fin 4} {i : Nat} {x : Nat} (n : Nat) (hd : decode cc pc = .ok (.aload_n q, 1)) (hi : (q : Nat) = i) (hx : lv[n]? = some (i, .ref x)) (k : G γ κ nL z Q (pc + 1) lv (.ref x :: st) M) : G γ κ nL z Q pc lv (st) M := fun H locs ls hP hS hl => lv_aload_n C.1 C.2.1 hd hi (lv_at hl n hx) (k H locs ls hP hS hl)
theorem G_aload (C : Cx γ κ own cc nL d z) {i : Nat} {x : Nat} (n : Nat) (hd : decode cc pc = .ok (.aload i, 2)) (hx : lv[n]? = some (i, .ref x)) (k : G γ κ nL z Q (pc + 2) lv (.ref x :: st) M) : G γ κ nL z Q pc lv (st) M := fun H locs ls hP hS hl => lv_aload C.1 C.2.1 hd (lv_at hl n hx) (k H locs ls hP hS hl)
theorem G_astore_n (C : Cx γ κ own cc nL d z) {q : Fin 4} {i : Nat} {x : Nat} {lv' : List (Nat × Value)} (hd : decode cc pc = .ok (.astore_n q, 1)) (hi : (q : Nat) = i) (hn : i < nL) (hv : (i, Value.ref x) :: lv.filter (fun q => !(q.1 == i) && !(q.1 + 1 == i && q.2.category == 2)) = lv') (k : G γ κ nL z Q (pc + 1) lv' (st) M) : G γ κ nL z Q pc lv (.ref x :: st) M := fun H locs ls hP hS hl => lv_astore_n C.1 C.2.1 hd hi hl hn hv (fun ls hl => k H locs ls hP hS hl)
theorem G_astore (C : Cx γ κ own cc nL d z) {i : Nat} {x : Nat} {lv' : List (Nat × Value)} (hd : decode cc pc = .ok (.astore i, 2)) (hn : i < nL) (hv : (i, Value.ref x) :: lv.filter (fun q => !(q.1 == i) && !(q.1 + 1 == i && q.2.category == 2)) = lv') (k : G γ κ nL z Q (pc + 2) lv' (st) M) : G γ κ nL z Q pc lv (.ref x :: st) M := fun H locs ls hP hS hl => lv_astore C.1 C.2.1 hd hl hn hv (fun ls hl => k H locs ls hP hS hl)
theorem G_iinc (C : Cx γ κ own cc nL d z) {i : Nat} {n : Int} {x v : Int32} {lv' : List (Nat × Value)} (j : Nat) (hd : decode cc pc = .ok (.iinc i n, 3)) (hx : lv[j]? = some (i, .int x)) (hv : x + Int32.ofInt n = v) (hn : i < nL) (hw : (i, Value.int v) :: lv.filter (fun q => !(q.1 == i) && !(q.1 + 1 == i && q.2.category == 2)) = lv') (k : G γ κ nL z Q (pc + 3) lv' (st) M) : G γ κ nL z Q pc lv (st) M := fun H locs ls hP hS hl => lv_iinc C.1 C.2.1 hd hl hx hv hn hw (fun ls hl => k H locs ls hP hS hl)
theorem G_iadd (C : Cx γ κ own cc nL d z) {x y : Int32} (hd : decode cc pc = .ok (.iadd, 1)) (k : G γ κ nL z Q (pc + 1) lv (.int (x + y) :: st) M) : G γ κ nL z Q pc lv (.int y :: .int x :: st) M := fun H locs ls hP hS hl => lv_iadd C.1 C.2.1 hd (k H locs ls hP hS hl)
theorem G_isub (C : Cx γ κ own cc nL d z) {x y : Int32} (hd : decode cc pc = .ok (.isub, 1)) (k : G γ κ nL z Q (pc + 1) lv (.int (x - y) :: st) M) : G γ κ nL z Q pc lv (.int y :: .int x :: st) M := fun H locs ls hP hS hl => lv_isub C.1 C.2.1 hd (k H locs ls hP hS hl)
theorem G_imul (C : Cx γ κ own cc nL d z) {x y : Int32} (hd : decode cc pc = .ok (.imul, 1)) (k : G γ κ nL z Q (pc + 1) lv (.int (x * y) :: st) M) : G γ κ nL z Q pc lv (.int y :: .int x :: st) M := fun H locs ls hP hS hl => lv_imul C.1 C.2.1 hd (k H locs ls hP hS hl)
theorem G_iand (C : Cx γ κ own cc nL d z) {x y : Int32} (hd : decode cc pc = .ok (.iand, 1)) (k : G γ κ nL z Q (pc + 1) lv (.int (x &&& y) :: st) M) : G γ κ nL z Q pc lv (.int y :: .int x :: st) M := fun H locs ls hP hS hl => lv_iand C.1 C.2.1 hd (k H locs ls hP hS hl)
theorem G_ladd (C : Cx γ κ own cc nL d z) {x y : Int64} (hd : decode cc pc = .ok (.ladd, 1)) (k : G γ κ nL z Q (pc + 1) lv (.long (x + y) :: st) M) : G γ κ nL z Q pc lv (.long y :: .long x :: st) M := fun H locs ls hP hS hl => lv_ladd C.1 C.2.1 hd (k H locs ls hP hS hl)
theorem G_lsub (C : Cx γ κ own cc nL d z) {x y : Int64} (hd : decode cc pc = .ok (.lsub, 1)) (k : G γ κ nL z Q (pc + 1) lv (.long (x - y) :: st) M) : G γ κ nL z Q pc lv (.long y :: .long x :: st) M := fun H locs ls hP hS hl => lv_lsub C.1 C.2.1 hd (k H locs ls hP hS hl)
theorem G_lmul (C : Cx γ κ own cc nL d z) {x y : Int64} (hd : decode cc pc = .ok (.lmul, 1)) (k : G γ κ nL z Q (pc + 1) lv (.long (x * y) :: st) M) : G γ κ nL z Q pc lv (.long y :: .long x :: st) M := fun H locs ls hP hS hl => lv_lmul C.1 C.2.1 hd (k H locs ls hP hS hl)
theorem G_ldiv (C : Cx γ κ own cc nL d z) {x y : Int64} (hd : decode cc pc = .ok (.ldiv, 1)) (hne : ¬ y = 0) (k : G γ κ nL z Q (pc + 1) lv (.long (x / y) :: st) M) : G γ κ nL z Q pc lv (.long y :: .long x :: st) M := fun H locs ls hP hS hl => lv_ldiv C.1 C.2.1 hd hne (k H locs ls hP hS hl)
theorem G_lrem (C : Cx γ κ own cc nL d z) {x y : Int64} (hd : decode cc pc = .ok (.lrem, 1)) (hne : ¬ y = 0) (k : G γ κ nL z Q (pc + 1) lv (.long (x - x / y * y) :: st) M) : G γ κ nL z Q pc lv (.long y :: .long x :: st) M := fun H locs ls hP hS hl => lv_lrem C.1 C.2.1 hd hne (k H locs ls hP hS hl)
theorem G_ineg (C : Cx γ κ own cc nL d z) {x : Int32} (hd : decode cc pc = .ok (.ineg, 1)) (k : G γ κ nL z Q (pc + 1) lv (.int (-x) :: st) M) : G γ κ nL z Q pc lv (.int x :: st) M := fun H locs ls hP hS hl => lv_ineg C.1 C.2.1 hd (k H locs ls hP hS hl)
theorem G_lneg (C : Cx γ κ own cc nL d z) {x : Int64} (hd : decode cc pc = .ok (.lneg, 1)) (k : G γ κ nL z Q (pc + 1) lv (.long (-x) :: st) M) : G γ κ nL z Q pc lv (.long x :: st) M := fun H locs ls hP hS hl => lv_lneg C.1 C.2.1 hd (k H locs ls hP hS hl)
theorem G_i2l (C : Cx γ κ own cc nL d z) {x : Int32} (hd : decode cc pc = .ok (.i2l, 1)) (k : G γ κ nL z Q (pc + 1) lv (.long x.toInt64 :: st) M) : G γ κ nL z Q pc lv (.int x :: st) M := fun H locs ls hP hS hl => lv_i2l C.1 C.2.1 hd rfl (k H locs ls hP hS hl)
theorem G_l2i (C : Cx γ κ own cc nL d z) {x : Int64} (hd : decode cc pc = .ok (.l2i, 1)) (k : G γ κ nL z Q (pc + 1) lv (.int x.toInt32 :: st) M) : G γ κ nL z Q pc lv (.long x :: st) M := fun H locs ls hP hS hl => lv_l2i C.1 C.2.1 hd rfl (k H locs ls hP hS hl)
theorem G_dup (C : Cx γ κ own cc nL d z) {a : Value} (hd : decode cc pc = .ok (.dup, 1)) (h1 : a.category = 1) (k : G γ κ nL z Q (pc + 1) lv (a :: a :: st) M) : G γ κ nL z Q pc lv (a :: st) M := fun H locs ls hP hS hl => lv_dup C.1 C.2.1 hd h1 (k H locs ls hP hS hl)
theorem G_pop (C : Cx γ κ own cc nL d z) {a : Value} (hd : decode cc pc = .ok (.pop, 1)) (h1 : a.category = 1) (k : G γ κ nL z Q (pc + 1) lv (st) M) : G γ κ nL z Q pc lv (a :: st) M := fun H locs ls hP hS hl => lv_pop C.1 C.2.1 hd h1 (k H locs ls hP hS hl)
theorem G_dup_x1 (C : Cx γ κ own cc nL d z) {a b : Value} (hd : decode cc pc = .ok (.dup_x1, 1)) (h1 : a.category = 1) (h2 : b.category = 1) (k : G γ κ nL z Q (pc + 1) lv (a :: b :: a :: st) M) : G γ κ nL z Q pc lv (a :: b :: st) M := fun H locs ls hP hS hl => lv_dup_x1 C.1 C.2.1 hd h1 h2 (k H locs ls hP hS hl)
theorem G_dup2 (C : Cx γ κ own cc nL d z) {a b : Value} (hd : decode cc pc = .ok (.dup2, 1)) (h1 : a.category = 1) (h2 : b.category = 1) (k : G γ κ nL z Q (pc + 1) lv (a :: b :: a :: b :: st) M) : G γ κ nL z Q pc lv (a :: b :: st) M := fun H locs ls hP hS hl => lv_dup2_11 C.1 C.2.1 hd h1 h2 (k H locs ls hP hS hl)
theorem G_goto (C : Cx γ κ own cc nL d z) {off : Int} {tgt : Nat} (hd : decode cc pc = .ok (.goto off, 3)) (ht : (pc : Int) + off = (tgt : Int)) (k : G γ κ nL z Q tgt lv (st) M) : G γ κ nL z Q pc lv (st) M := fun H locs ls hP hS hl => lv_goto C.1 C.2.1 hd ht (k H locs ls hP hS hl)
theorem G_null (C : Cx γ κ own cc nL d z)  (hd : decode cc pc = .ok (.aconst_null, 1)) (k : G γ κ nL z Q (pc + 1) lv (.null :: st) M) : G γ κ nL z Q pc lv (st) M := fun H locs ls hP hS hl => lv_null C.1 C.2.1 hd (k H locs ls hP hS hl)
theorem G_if_eq (C : Cx γ κ own cc nL d z) {x : Int32} {off : Int} {tgt : Nat} (hd : decode cc pc = .ok (.ifCond .eq off, 3)) (ht : (pc : Int) + off = (tgt : Int)) (kt : x = 0 → G γ κ nL z Q tgt lv st M) (kf : ¬ x = 0 → G γ κ nL z Q (pc + 3) lv st M) : G γ κ nL z Q pc lv (.int x :: st) M := fun H locs ls hP hS hl => lv_if_eq C.1 C.2.1 hd ht (fun q => kt q H locs ls hP hS hl) (fun q => kf q H locs ls hP hS hl)
theorem G_if_ne (C : Cx γ κ own cc nL d z) {x : Int32} {off : Int} {tgt : Nat} (hd : decode cc pc = .ok (.ifCond .ne off, 3)) (ht : (pc : Int) + off = (tgt : Int)) (kt : ¬ x = 0 → G γ κ nL z Q tgt lv st M) (kf : x = 0 → G γ κ nL z Q (pc + 3) lv st M) : G γ κ nL z Q pc lv (.int x :: st) M := fun H locs ls hP hS hl => lv_if_ne C.1 C.2.1 hd ht (fun q => kt q H locs ls hP hS hl) (fun q => kf q H locs ls hP hS hl)
theorem G_if_lt (C : Cx γ κ own cc nL d z) {x : Int32} {off : Int} {tgt : Nat} (hd : decode cc pc = .ok (.ifCond .lt off, 3)) (ht : (pc : Int) + off = (tgt : Int)) (kt : x < 0 → G γ κ nL z Q tgt lv st M) (kf : ¬ x < 0 → G γ κ nL z Q (pc + 3) lv st M) : G γ κ nL z Q pc lv (.int x :: st) M := fun H locs ls hP hS hl => lv_if_lt C.1 C.2.1 hd ht (fun q => kt q H locs ls hP hS hl) (fun q => kf q H locs ls hP hS hl)
theorem G_if_ge (C : Cx γ κ own cc nL d z) {x : Int32} {off : Int} {tgt : Nat} (hd : decode cc pc = .ok (.ifCond .ge off, 3)) (ht : (pc : Int) + off = (tgt : Int)) (kt : 0 ≤ x → G γ κ nL z Q tgt lv st M) (kf : ¬ 0 ≤ x → G γ κ nL z Q (pc + 3) lv st M) : G γ κ nL z Q pc lv (.int x :: st) M := fun H locs ls hP hS hl => lv_if_ge C.1 C.2.1 hd ht (fun q => kt q H locs ls hP hS hl) (fun q => kf q H locs ls hP hS hl)
theorem G_if_gt (C : Cx γ κ own cc nL d z) {x : Int32} {off : Int} {tgt : Nat} (hd : decode cc pc = .ok (.ifCond .gt off, 3)) (ht : (pc : Int) + off = (tgt : Int)) (kt : 0 < x → G γ κ nL z Q tgt lv st M) (kf : ¬ 0 < x → G γ κ nL z Q (pc + 3) lv st M) : G γ κ nL z Q pc lv (.int x :: st) M := fun H locs ls hP hS hl => lv_if_gt C.1 C.2.1 hd ht (fun q => kt q H locs ls hP hS hl) (fun q => kf q H locs ls hP hS hl)
theorem G_if_le (C : Cx γ κ own cc nL d z) {x : Int32} {off : Int} {tgt : Nat} (hd : decode cc pc = .ok (.ifCond .le off, 3)) (ht : (pc : Int) + off = (tgt : Int)) (kt : x ≤ 0 → G γ κ nL z Q tgt lv st M) (kf : ¬ x ≤ 0 → G γ κ nL z Q (pc + 3) lv st M) : G γ κ nL z Q pc lv (.int x :: st) M := fun H locs ls hP hS hl => lv_if_le C.1 C.2.1 hd ht (fun q => kt q H locs ls hP hS hl) (fun q => kf q H locs ls hP hS hl)
theorem G_icmp_eq (C : Cx γ κ own cc nL d z) {x y : Int32} {off : Int} {tgt : Nat} (hd : decode cc pc = .ok (.if_icmp .eq off, 3)) (ht : (pc : Int) + off = (tgt : Int)) (kt : x = y → G γ κ nL z Q tgt lv st M) (kf : ¬ x = y → G γ κ nL z Q (pc + 3) lv st M) : G γ κ nL z Q pc lv (.int y :: .int x :: st) M := fun H locs ls hP hS hl => lv_icmp_eq C.1 C.2.1 hd ht (fun q => kt q H locs ls hP hS hl) (fun q => kf q H locs ls hP hS hl)
theorem G_icmp_ne (C : Cx γ κ own cc nL d z) {x y : Int32} {off : Int} {tgt : Nat} (hd : decode cc pc = .ok (.if_icmp .ne off, 3)) (ht : (pc : Int) + off = (tgt : Int)) (kt : ¬ x = y → G γ κ nL z Q tgt lv st M) (kf : x = y → G γ κ nL z Q (pc + 3) lv st M) : G γ κ nL z Q pc lv (.int y :: .int x :: st) M := fun H locs ls hP hS hl => lv_icmp_ne C.1 C.2.1 hd ht (fun q => kt q H locs ls hP hS hl) (fun q => kf q H locs ls hP hS hl)
theorem G_icmp_lt (C : Cx γ κ own cc nL d z) {x y : Int32} {off : Int} {tgt : Nat} (hd : decode cc pc = .ok (.if_icmp .lt off, 3)) (ht : (pc : Int) + off = (tgt : Int)) (kt : x < y → G γ κ nL z Q tgt lv st M) (kf : ¬ x < y → G γ κ nL z Q (pc + 3) lv st M) : G γ κ nL z Q pc lv (.int y :: .int x :: st) M := fun H locs ls hP hS hl => lv_icmp_lt C.1 C.2.1 hd ht (fun q => kt q H locs ls hP hS hl) (fun q => kf q H locs ls hP hS hl)
theorem G_icmp_ge (C : Cx γ κ own cc nL d z) {x y : Int32} {off : Int} {tgt : Nat} (hd : decode cc pc = .ok (.if_icmp .ge off, 3)) (ht : (pc : Int) + off = (tgt : Int)) (kt : y ≤ x → G γ κ nL z Q tgt lv st M) (kf : ¬ y ≤ x → G γ κ nL z Q (pc + 3) lv st M) : G γ κ nL z Q pc lv (.int y :: .int x :: st) M := fun H locs ls hP hS hl => lv_icmp_ge C.1 C.2.1 hd ht (fun q => kt q H locs ls hP hS hl) (fun q => kf q H locs ls hP hS hl)
theorem G_icmp_gt (C : Cx γ κ own cc nL d z) {x y : Int32} {off : Int} {tgt : Nat} (hd : decode cc pc = .ok (.if_icmp .gt off, 3)) (ht : (pc : Int) + off = (tgt : Int)) (kt : y < x → G γ κ nL z Q tgt lv st M) (kf : ¬ y < x → G γ κ nL z Q (pc + 3) lv st M) : G γ κ nL z Q pc lv (.int y :: .int x :: st) M := fun H locs ls hP hS hl => lv_icmp_gt C.1 C.2.1 hd ht (fun q => kt q H locs ls hP hS hl) (fun q => kf q H locs ls hP hS hl)
theorem G_icmp_le (C : Cx γ κ own cc nL d z) {x y : Int32} {off : Int} {tgt : Nat} (hd : decode cc pc = .ok (.if_icmp .le off, 3)) (ht : (pc : Int) + off = (tgt : Int)) (kt : x ≤ y → G γ κ nL z Q tgt lv st M) (kf : ¬ x ≤ y → G γ κ nL z Q (pc + 3) lv st M) : G γ κ nL z Q pc lv (.int y :: .int x :: st) M := fun H locs ls hP hS hl => lv_icmp_le C.1 C.2.1 hd ht (fun q => kt q H locs ls hP hS hl) (fun q => kf q H locs ls hP hS hl)
theorem G_lcmp_eq (C : Cx γ κ own cc nL d z) {x y : Int64} {off : Int} {tgt pc1 : Nat} (hd0 : decode cc pc = .ok (.lcmp, 1)) (h1 : pc + 1 = pc1) (hd : decode cc pc1 = .ok (.ifCond .eq off, 3)) (ht : (pc1 : Int) + off = (tgt : Int)) (kt : x = y → G γ κ nL z Q tgt lv st M) (kf : ¬ x = y → G γ κ nL z Q (pc1 + 3) lv st M) : G γ κ nL z Q pc lv (.long y :: .long x :: st) M := fun H locs ls hP hS hl => by
  subst h1
  exact W.lcmp C.1 C.2.1 hd0 (lv_if_eq C.1 C.2.1 hd ht (fun q => kt ((lg_cmp_eq x y).mp q) H locs ls hP hS hl) (fun q => kf (fun w => q ((lg_cmp_eq x y).mpr w)) H locs ls hP hS hl))
theorem G_lcmp_ne (C : Cx γ κ own cc nL d z) {x y : Int64} {off : Int} {tgt pc1 : Nat} (hd0 : decode cc pc = .ok (.lcmp, 1)) (h1 : pc + 1 = pc1) (hd : decode cc pc1 = .ok (.ifCond .ne off, 3)) (ht : (pc1 : Int) + off = (tgt : Int)) (kt : ¬ x = y → G γ κ nL z Q tgt lv st M) (kf : x = y → G γ κ nL z Q (pc1 + 3) lv st M) : G γ κ nL z Q pc lv (.long y :: .long x :: st) M := fun H locs ls hP hS hl => by
  subst h1
  exact W.lcmp C.1 C.2.1 hd0 (lv_if_ne C.1 C.2.1 hd ht (fun q => kt (fun w => q ((lg_cmp_eq x y).mpr w)) H locs ls hP hS hl) (fun q => kf ((lg_cmp_eq x y).mp q) H locs ls hP hS hl))
theorem G_lcmp_lt (C : Cx γ κ own cc nL d z) {x y : Int64} {off : Int} {tgt pc1 : Nat} (hd0 : decode cc pc = .ok (.lcmp, 1)) (h1 : pc + 1 = pc1) (hd : decode cc pc1 = .ok (.ifCond .lt off, 3)) (ht : (pc1 : Int) + off = (tgt : Int)) (kt : x < y → G γ κ nL z Q tgt lv st M) (kf : ¬ x < y → G γ κ nL z Q (pc1 + 3) lv st M) : G γ κ nL z Q pc lv (.long y :: .long x :: st) M := fun H locs ls hP hS hl => by
  subst h1
  exact W.lcmp C.1 C.2.1 hd0 (lv_if_lt C.1 C.2.1 hd ht (fun q => kt ((lg_cmp_lt x y).mp q) H locs ls hP hS hl) (fun q => kf (fun w => q ((lg_cmp_lt x y).mpr w)) H locs ls hP hS hl))
theorem G_lcmp_ge (C : Cx γ κ own cc nL d z) {x y : Int64} {off : Int} {tgt pc1 : Nat} (hd0 : decode cc pc = .ok (.lcmp, 1)) (h1 : pc + 1 = pc1) (hd : decode cc pc1 = .ok (.ifCond .ge off, 3)) (ht : (pc1 : Int) + off = (tgt : Int)) (kt : y ≤ x → G γ κ nL z Q tgt lv st M) (kf : ¬ y ≤ x → G γ κ nL z Q (pc1 + 3) lv st M) : G γ κ nL z Q pc lv (.long y :: .long x :: st) M := fun H locs ls hP hS hl => by
  subst h1
  exact W.lcmp C.1 C.2.1 hd0 (lv_if_ge C.1 C.2.1 hd ht (fun q => kt ((lg_cmp_ge x y).mp q) H locs ls hP hS hl) (fun q => kf (fun w => q ((lg_cmp_ge x y).mpr w)) H locs ls hP hS hl))
theorem G_lcmp_gt (C : Cx γ κ own cc nL d z) {x y : Int64} {off : Int} {tgt pc1 : Nat} (hd0 : decode cc pc = .ok (.lcmp, 1)) (h1 : pc + 1 = pc1) (hd : decode cc pc1 = .ok (.ifCond .gt off, 3)) (ht : (pc1 : Int) + off = (tgt : Int)) (kt : y < x → G γ κ nL z Q tgt lv st M) (kf : ¬ y < x → G γ κ nL z Q (pc1 + 3) lv st M) : G γ κ nL z Q pc lv (.long y :: .long x :: st) M := fun H locs ls hP hS hl => by
  subst h1
  exact W.lcmp C.1 C.2.1 hd0 (lv_if_gt C.1 C.2.1 hd ht (fun q => kt ((lg_cmp_gt x y).mp q) H locs ls hP hS hl) (fun q => kf (fun w => q ((lg_cmp_gt x y).mpr w)) H locs ls hP hS hl))
theorem G_lcmp_le (C : Cx γ κ own cc nL d z) {x y : Int64} {off : Int} {tgt pc1 : Nat} (hd0 : decode cc pc = .ok (.lcmp, 1)) (h1 : pc + 1 = pc1) (hd : decode cc pc1 = .ok (.ifCond .le off, 3)) (ht : (pc1 : Int) + off = (tgt : Int)) (kt : x ≤ y → G γ κ nL z Q tgt lv st M) (kf : ¬ x ≤ y → G γ κ nL z Q (pc1 + 3) lv st M) : G γ κ nL z Q pc lv (.long y :: .long x :: st) M := fun H locs ls hP hS hl => by
  subst h1
  exact W.lcmp C.1 C.2.1 hd0 (lv_if_le C.1 C.2.1 hd ht (fun q => kt ((lg_cmp_le x y).mp q) H locs ls hP hS hl) (fun q => kf (fun w => q ((lg_cmp_le x y).mpr w)) H locs ls hP hS hl))
theorem G_sub (ks : List Nat) {lv' : List (Nat × Value)} (h : lv_pick lv ks = lv') (k : G γ κ nL z Q pc lv' st M) : G γ κ nL z Q pc lv st M := fun H locs ls hP hS hl => k H locs ls hP hS (lv_sub hl ks h)
theorem G_mem {M' : Mem} (h : M = M') (k : G γ κ nL z Q pc lv st M') : G γ κ nL z Q pc lv st M := h ▸ k
theorem wl_at {b : Nat} {E : Nat → va_E} {k : Nat} {e : va_E} (hk : k < 76) (he : E k = e) : (wl b E)[k]? = some (b + k, e) := (wl_get hk).trans (congrArg (fun e => some (b + k, e)) he)
theorem G_get (C : Cx γ κ own cc nL d z) {ci k j N idx : Nat} {CN : String} {T : u_T} {fs : List Value} {v : Value} (hk : k < 76) (he : shp κ k (M.1 k) (M.2 k) = .inr (ci, fs)) (hc : cls8[ci]? = some (CN, T, N)) (hj : j < N) (hin : ∀ w ∈ u_ws CN T N, w ∈ gw) (hlink : Cond.fieldLink own idx CN (T j).2.1 (T j).2.2.1 ∈ gw) (hsame : (T j).1 = CN) (hv : fs[j]? = some v) (hd : decode cc pc = .ok (.getfield idx, 3))
    (kk : G γ κ nL z Q (pc + 3) lv (v :: st) M) : G γ κ nL z Q pc lv (.ref (κ.1 + k) :: st) M := fun H locs ls hP hS hl =>
  va_get (D := κ.2.2) (cl := cls8) (tys := tysK κ) (ws := wl κ.1 (ents κ M)) (Ts := gw) C.1 C.2.1 C.2.2.2.2.1 hin C.2.2.2.1 C.2.2.2.2.2.1.1 hP k (wl_at hk he) hc j hj (C.2.2.2.2.1 _ hlink) (fun x h => by rw [hsame] at h; exact h) hv hd (kk H locs ls hP hS hl)
theorem G_putI (C : Cx γ κ own cc nL d z) {ci k j N idx : Nat} {CN : String} {T : u_T} {fs : List Value} {v : Int32} (hk : k < 76) (he : shp κ k (M.1 k) (M.2 k) = .inr (ci, fs)) (he2 : shp κ k (upd (M.1 k) j v) (M.2 k) = .inr (ci, fs.set j (.int v))) (hc : cls8[ci]? = some (CN, T, N)) (hj : j < N) (hin : ∀ w ∈ u_ws CN T N, w ∈ gw) (ty0 : Nat → FieldType) (hty : ∀ k, k < N → parseFieldDescriptor (T k).2.2.1 = some (ty0 k)) (hnm : ∀ a, a < N → ∀ b, b < N → a ≠ b → (T a).2.1 ≠ (T b).2.1) (hlink : Cond.fieldLink own idx CN (T j).2.1 (T j).2.2.1 ∈ gw) (hsame : (T j).1 = CN) (hfin : (T j).2.2.2 = false) (hde : parseFieldDescriptor (T j).2.2.1 = some .int) (hl : j < fs.length) (hd : decode cc pc = .ok (.putfield idx, 3))
    (kk : G γ κ nL z Q (pc + 3) lv st (wI M k j v)) : G γ κ nL z Q pc lv (.int v :: .ref (κ.1 + k) :: st) M := fun H locs ls hP hS hll =>
  va_put (D := κ.2.2) (cl := cls8) (tys := tysK κ) (ws := wl κ.1 (ents κ M)) (A := Ab κ) (Ts := gw) C.1 C.2.1 C.2.2.2.2.1 hin ty0 hty hnm C.2.2.2.1 C.2.2.2.2.2.1.1 hP wl_D hS k (wl_at hk he) hc j hj (C.2.2.2.2.1 _ hlink) (fun x h => by rw [hsame] at h; exact h) hfin hde rfl rfl hl hd
    (fun H1 locs1 hP1 _ hS1 => kk H1 locs1 ls (by rw [wl_set hk, ← he2, ← ents_I] at hP1; exact hP1) hS1 hll)
theorem G_putJ (C : Cx γ κ own cc nL d z) {ci k j N idx : Nat} {CN : String} {T : u_T} {fs : List Value} {v : Int64} (hk : k < 76) (he : shp κ k (M.1 k) (M.2 k) = .inr (ci, fs)) (he2 : shp κ k (M.1 k) (vp_updL (M.2 k) j v) = .inr (ci, fs.set j (.long v))) (hc : cls8[ci]? = some (CN, T, N)) (hj : j < N) (hin : ∀ w ∈ u_ws CN T N, w ∈ gw) (ty0 : Nat → FieldType) (hty : ∀ k, k < N → parseFieldDescriptor (T k).2.2.1 = some (ty0 k)) (hnm : ∀ a, a < N → ∀ b, b < N → a ≠ b → (T a).2.1 ≠ (T b).2.1) (hlink : Cond.fieldLink own idx CN (T j).2.1 (T j).2.2.1 ∈ gw) (hsame : (T j).1 = CN) (hfin : (T j).2.2.2 = false) (hde : parseFieldDescriptor (T j).2.2.1 = some .long) (hl : j < fs.length) (hd : decode cc pc = .ok (.putfield idx, 3))
    (kk : G γ κ nL z Q (pc + 3) lv st (wJ M k j v)) : G γ κ nL z Q pc lv (.long v :: .ref (κ.1 + k) :: st) M := fun H locs ls hP hS hll =>
  va_put (D := κ.2.2) (cl := cls8) (tys := tysK κ) (ws := wl κ.1 (ents κ M)) (A := Ab κ) (Ts := gw) C.1 C.2.1 C.2.2.2.2.1 hin ty0 hty hnm C.2.2.2.1 C.2.2.2.2.2.1.1 hP wl_D hS k (wl_at hk he) hc j hj (C.2.2.2.2.1 _ hlink) (fun x h => by rw [hsame] at h; exact h) hfin hde rfl rfl hl hd
    (fun H1 locs1 hP1 _ hS1 => kk H1 locs1 ls (by rw [wl_set hk, ← he2, ← ents_J] at hP1; exact hP1) hS1 hll)
theorem G_iaload (C : Cx γ κ own cc nL d z) {k n : Nat} (hk : k < 76) (hs : ∀ f g, shp κ k f g = eI κ n f) {i : Int32} (hin : vp_in i n) (hd : decode cc pc = .ok (.iaload, 1))
    (kk : G γ κ nL z Q (pc + 1) lv (.int (M.1 k i.toNatClampNeg) :: st) M) : G γ κ nL z Q pc lv (.int i :: .ref (κ.1 + k) :: st) M := fun H locs ls hP hS hl =>
  va_iald (D := κ.2.2) (cl := cls8) (tys := tysK κ) (ws := wl κ.1 (ents κ M)) C.1 C.2.1 C.2.2.2.2.2.1.1 hP k 0 (wl_at hk (hs _ _)) rfl hin hd (kk H locs ls hP hS hl)
theorem G_baload (C : Cx γ κ own cc nL d z) {k n : Nat} (hk : k < 76) (hs : ∀ f g, shp κ k f g = eZ κ n f) {i : Int32} (hin : vp_in i n) (hd : decode cc pc = .ok (.baload, 1))
    (kk : G γ κ nL z Q (pc + 1) lv (.int (M.1 k i.toNatClampNeg) :: st) M) : G γ κ nL z Q pc lv (.int i :: .ref (κ.1 + k) :: st) M := fun H locs ls hP hS hl =>
  va_zald (D := κ.2.2) (cl := cls8) (tys := tysK κ) (ws := wl κ.1 (ents κ M)) C.1 C.2.1 C.2.2.2.2.2.1.1 hP k 2 (wl_at hk (hs _ _)) rfl hin hd (kk H locs ls hP hS hl)
theorem G_laload (C : Cx γ κ own cc nL d z) {k n : Nat} (hk : k < 76) (hs : ∀ f g, shp κ k f g = eJ κ n g) {i : Int32} (hin : vp_in i n) (hd : decode cc pc = .ok (.laload, 1))
    (kk : G γ κ nL z Q (pc + 1) lv (.long (M.2 k i.toNatClampNeg) :: st) M) : G γ κ nL z Q pc lv (.int i :: .ref (κ.1 + k) :: st) M := fun H locs ls hP hS hl =>
  va_lald (D := κ.2.2) (cl := cls8) (tys := tysK κ) (ws := wl κ.1 (ents κ M)) C.1 C.2.1 C.2.2.2.2.2.1.1 hP k 1 (wl_at hk (hs _ _)) rfl hin hd (kk H locs ls hP hS hl)
theorem G_iastore (C : Cx γ κ own cc nL d z) {k n : Nat} (hk : k < 76) (hs : ∀ f g, shp κ k f g = eI κ n f) {i x : Int32} (hin : vp_in i n) (hd : decode cc pc = .ok (.iastore, 1))
    (kk : G γ κ nL z Q (pc + 1) lv st (wI M k i.toNatClampNeg x)) : G γ κ nL z Q pc lv (.int x :: .int i :: .ref (κ.1 + k) :: st) M := fun H locs ls hP hS hl =>
  va_iast (D := κ.2.2) (cl := cls8) (tys := tysK κ) (ws := wl κ.1 (ents κ M)) (A := Ab κ) C.1 C.2.1 C.2.2.2.2.2.1.1 hP wl_D hS k 0 (wl_at hk (hs _ _)) rfl hin hd
    (fun H1 locs1 hP1 _ hS1 => kk H1 locs1 ls (by rw [wl_set hk] at hP1; unfold Hp; rw [ents_I, hs]; exact hP1) hS1 hl)
theorem G_bastore (C : Cx γ κ own cc nL d z) {k n : Nat} (hk : k < 76) (hs : ∀ f g, shp κ k f g = eZ κ n f) {i x x2 : Int32} (hin : vp_in i n) (hx : vp_nar .boolean x = x2) (hd : decode cc pc = .ok (.bastore, 1))
    (kk : G γ κ nL z Q (pc + 1) lv st (wI M k i.toNatClampNeg x2)) : G γ κ nL z Q pc lv (.int x :: .int i :: .ref (κ.1 + k) :: st) M := fun H locs ls hP hS hl =>
  va_zast (D := κ.2.2) (cl := cls8) (tys := tysK κ) (ws := wl κ.1 (ents κ M)) (A := Ab κ) C.1 C.2.1 C.2.2.2.2.2.1.1 hP wl_D hS k 2 (wl_at hk (hs _ _)) rfl hin hd
    (fun H1 locs1 hP1 _ hS1 => kk H1 locs1 ls (by rw [wl_set hk, hx] at hP1; unfold Hp; rw [ents_I, hs]; exact hP1) hS1 hl)
theorem G_lastore (C : Cx γ κ own cc nL d z) {k n : Nat} (hk : k < 76) (hs : ∀ f g, shp κ k f g = eJ κ n g) {i : Int32} {x : Int64} (hin : vp_in i n) (hd : decode cc pc = .ok (.lastore, 1))
    (kk : G γ κ nL z Q (pc + 1) lv st (wJ M k i.toNatClampNeg x)) : G γ κ nL z Q pc lv (.long x :: .int i :: .ref (κ.1 + k) :: st) M := fun H locs ls hP hS hl =>
  va_last (D := κ.2.2) (cl := cls8) (tys := tysK κ) (ws := wl κ.1 (ents κ M)) (A := Ab κ) C.1 C.2.1 C.2.2.2.2.2.1.1 hP wl_D hS k 1 (wl_at hk (hs _ _)) rfl hin hd
    (fun H1 locs1 hP1 _ hS1 => kk H1 locs1 ls (by rw [wl_set hk] at hP1; unfold Hp; rw [ents_J, hs]; exact hP1) hS1 hl)
theorem G_alenI (C : Cx γ κ own cc nL d z) {k n : Nat} (hk : k < 76) (hs : ∀ f g, shp κ k f g = eI κ n f) (hd : decode cc pc = .ok (.arraylength, 1))
    (kk : G γ κ nL z Q (pc + 1) lv (.int (nI n) :: st) M) : G γ κ nL z Q pc lv (.ref (κ.1 + k) :: st) M := fun H locs ls hP hS hl =>
  va_alen (D := κ.2.2) (cl := cls8) (tys := tysK κ) (ws := wl κ.1 (ents κ M)) C.1 C.2.1 C.2.2.2.2.2.1.1 hP k 0 (wl_at hk (hs _ _)) rfl rfl hd (kk H locs ls hP hS hl)
theorem G_alenJ (C : Cx γ κ own cc nL d z) {k n : Nat} (hk : k < 76) (hs : ∀ f g, shp κ k f g = eJ κ n g) (hd : decode cc pc = .ok (.arraylength, 1))
    (kk : G γ κ nL z Q (pc + 1) lv (.int (nI n) :: st) M) : G γ κ nL z Q pc lv (.ref (κ.1 + k) :: st) M := fun H locs ls hP hS hl =>
  va_alen (D := κ.2.2) (cl := cls8) (tys := tysK κ) (ws := wl κ.1 (ents κ M)) C.1 C.2.1 C.2.2.2.2.2.1.1 hP k 1 (wl_at hk (hs _ _)) rfl rfl hd (kk H locs ls hP hS hl)
theorem G_aaF (C : Cx γ κ own cc nL d z) {i : Int32} (hin : vp_in i 12) (hd : decode cc pc = .ok (.aaload, 1))
    (kk : G γ κ nL z Q (pc + 1) lv (.ref (κ.1 + (32 + 2 * i.toNatClampNeg)) :: st) M) : G γ κ nL z Q pc lv (.int i :: .ref (κ.1 + 8) :: st) M := fun H locs ls hP hS hl =>
  va_aldq (D := κ.2.2) (cl := cls8) (tys := tysK κ) (ws := wl κ.1 (ents κ M)) C.1 C.2.1 C.2.2.2.2.2.1.1 hP 8 3 (wl_at (e := eF κ) (by decide) rfl) rfl hin hd (kk H locs ls hP hS hl)
theorem G_aaT (C : Cx γ κ own cc nL d z) {i : Int32} (hin : vp_in i 10) (hd : decode cc pc = .ok (.aaload, 1))
    (kk : G γ κ nL z Q (pc + 1) lv (.ref (κ.1 + (17 + i.toNatClampNeg)) :: st) M) : G γ κ nL z Q pc lv (.int i :: .ref (κ.1 + 16) :: st) M := fun H locs ls hP hS hl => by
  have hlt : i.toNatClampNeg < 10 := Nat.not_le.mp fun q => hin (Or.inr q)
  have hc : va_at κ.2.2 cls8 (κ.1 + 16, eT κ) H := hP 16 _ (wl_at (e := eT κ) (by decide) rfl)
  exact W.aald (v := .ref (κ.1 + (17 + i.toNatClampNeg))) C.1 C.2.1 hc ((C.2.2.2.2.2.1.1.2 4 _ rfl).1 10 (fun j => va_rf (some (κ.1 + (17 + j))))) rfl (fun q => by cases q) (by show ¬ (i < 0 ∨ (arrV _ _ _).slots.size ≤ _); rw [arrV_size]; exact hin) (by show (arrV _ _ _).slots[_]? = _; rw [arrV_read _ _ hlt]; rfl) rfl rfl hd (kk H locs ls hP hS hl)
/-- a form, or null -/
def fv (κ : Kp) (r : Option Nat) : Value := match r with
  | none => .null
  | some i => .ref (κ.1 + (32 + 2 * i))
theorem G_aload_nq (C : Cx γ κ own cc nL d z) {q : Fin 4} {i : Nat} {r : Option Nat} (n : Nat) (hd : decode cc pc = .ok (.aload_n q, 1)) (hi : (q : Nat) = i) (hx : lv[n]? = some (i, fv κ r)) (k : G γ κ nL z Q (pc + 1) lv (fv κ r :: st) M) : G γ κ nL z Q pc lv st M := fun H locs ls hP hS hl => by
  cases r with
  | none => exact lv_aload_nN C.1 C.2.1 hd hi (lv_at hl n hx) (k H locs ls hP hS hl)
  | some j => exact lv_aload_n C.1 C.2.1 hd hi (lv_at hl n hx) (k H locs ls hP hS hl)
theorem G_aloadq (C : Cx γ κ own cc nL d z) {i : Nat} {r : Option Nat} (n : Nat) (hd : decode cc pc = .ok (.aload i, 2)) (hx : lv[n]? = some (i, fv κ r)) (k : G γ κ nL z Q (pc + 2) lv (fv κ r :: st) M) : G γ κ nL z Q pc lv st M := fun H locs ls hP hS hl => by
  cases r with
  | none => exact lv_aloadN C.1 C.2.1 hd (lv_at hl n hx) (k H locs ls hP hS hl)
  | some j => exact lv_aload C.1 C.2.1 hd (lv_at hl n hx) (k H locs ls hP hS hl)
theorem G_astore_nq (C : Cx γ κ own cc nL d z) {q : Fin 4} {i : Nat} {r : Option Nat} {lv' : List (Nat × Value)} (hd : decode cc pc = .ok (.astore_n q, 1)) (hi : (q : Nat) = i) (hn : i < nL) (hv : (i, fv κ r) :: lv.filter (fun q => !(q.1 == i) && !(q.1 + 1 == i && q.2.category == 2)) = lv') (k : G γ κ nL z Q (pc + 1) lv' st M) : G γ κ nL z Q pc lv (fv κ r :: st) M := fun H locs ls hP hS hl => by
  cases r with
  | none => exact lv_astore_nN C.1 C.2.1 hd hi hl hn hv (fun ls hl => k H locs ls hP hS hl)
  | some j => exact lv_astore_n C.1 C.2.1 hd hi hl hn hv (fun ls hl => k H locs ls hP hS hl)
theorem G_astoreq (C : Cx γ κ own cc nL d z) {i : Nat} {r : Option Nat} {lv' : List (Nat × Value)} (hd : decode cc pc = .ok (.astore i, 2)) (hn : i < nL) (hv : (i, fv κ r) :: lv.filter (fun q => !(q.1 == i) && !(q.1 + 1 == i && q.2.category == 2)) = lv') (k : G γ κ nL z Q (pc + 2) lv' st M) : G γ κ nL z Q pc lv (fv κ r :: st) M := fun H locs ls hP hS hl => by
  cases r with
  | none => exact lv_astoreN C.1 C.2.1 hd hl hn hv (fun ls hl => k H locs ls hP hS hl)
  | some j => exact lv_astore C.1 C.2.1 hd hl hn hv (fun ls hl => k H locs ls hP hS hl)
theorem G_ifnullq (C : Cx γ κ own cc nL d z) {r : Option Nat} {off : Int} {tgt : Nat} (hd : decode cc pc = .ok (.ifnull off, 3)) (ht : (pc : Int) + off = (tgt : Int)) (kt : r = none → G γ κ nL z Q tgt lv st M) (kf : ∀ i, r = some i → G γ κ nL z Q (pc + 3) lv st M) : G γ κ nL z Q pc lv (fv κ r :: st) M := fun H locs ls hP hS hl => by
  cases r with
  | none => exact lv_ifnullN C.1 C.2.1 hd ht (kt rfl H locs ls hP hS hl)
  | some j => exact lv_ifnull C.1 C.2.1 hd (kf j rfl H locs ls hP hS hl)
theorem G_ifnonnullq (C : Cx γ κ own cc nL d z) {r : Option Nat} {off : Int} {tgt : Nat} (hd : decode cc pc = .ok (.ifnonnull off, 3)) (ht : (pc : Int) + off = (tgt : Int)) (kt : ∀ i, r = some i → G γ κ nL z Q tgt lv st M) (kf : r = none → G γ κ nL z Q (pc + 3) lv st M) : G γ κ nL z Q pc lv (fv κ r :: st) M := fun H locs ls hP hS hl => by
  cases r with
  | none => exact lv_ifnonnullN C.1 C.2.1 hd (kf rfl H locs ls hP hS hl)
  | some j => exact lv_ifnonnull C.1 C.2.1 hd ht (kt j rfl H locs ls hP hS hl)
/-! calls -/
/-- a method's own words; n: how many parameters -/
def Yw (y : MethodName) (bytes : ByteArray) (mL : Nat) (ret : Option FieldType) (n : Nat) : Prop :=
  Cond.code y bytes mL ret ∈ gw ∧ Cond.initialized y.cls ∈ gw ∧ (y.cls ≠ "java/lang/invoke/MethodHandle" ∧ y.cls ≠ "java/lang/invoke/VarHandle" ∧ (parseMethodDescriptor y.desc).map (fun d => d.parameters.length) = some n) ∧ mL ≤ 26
theorem Yw_good {y : MethodName} {bytes : ByteArray} {mL : Nat} {ret : Option FieldType} (h : Cond.code y bytes mL ret ∈ gw) : GoodIn gw (Cond.code y bytes mL ret :: gw) := fun w hw => by
  rcases List.mem_cons.mp hw with e | e
  · rw [e]; exact ⟨h, good_of_word (gw_good _ h)⟩
  · exact ⟨e, good_of_word (gw_good _ e)⟩
theorem pc_blind {κ : Kp} {As : List Value} {M : Mem} : FrameBlind (va_Pc As (fun U => Hp κ M U.heap ∧ KK κ U)) := fun a U g mk q => by
  obtain ⟨q0, q1, q2⟩ := q
  exact ⟨q0, q1, q2.same (U := U.calling g mk a) rfl⟩
theorem G_run {H : Heap} {locs : List Loc} {ls : Array Slot} {st0 rest : List Value} {a : Array Value} {post : Option Value → Mem → Prop} (hS : va_S (Ab κ) γ.2.2.2.2.1.heap H locs) (hl : lv_has ls nL lv)
    (hr : va_Run γ.1 γ.2.1 γ.2.2.1 γ.2.2.2.1 γ.2.2.2.2.1 γ.2.2.2.2.2.1 γ.2.2.2.2.2.2.1 γ.2.2.2.2.2.2.2.1 γ.2.2.2.2.2.2.2.2.1 γ.2.2.2.2.2.2.2.2.2 H locs z.1 z.2 0 0 (F0 γ.2.2.2.2.2.1 pc ls st0) rest (qcc κ post a) (Ab κ))
    (kk : ∀ v M', post v M' → G γ κ nL z Q (pc + 3) lv (v.toList ++ rest) M') :
    W γ.1 γ.2.1 γ.2.2.1 γ.2.2.2.1 γ.2.2.2.2.1 γ.2.2.2.2.2.1 γ.2.2.2.2.2.2.1 γ.2.2.2.2.2.2.2.1 γ.2.2.2.2.2.2.2.2.1 γ.2.2.2.2.2.2.2.2.2 H locs z.1 z.2 Q (F0 γ.2.2.2.2.2.1 pc ls st0) := by
  intro T hT X
  obtain ⟨v, st₀, t, T', L, h0, X', hL, e1, e2, ⟨⟨v', M', hv, hp, hh⟩, hz, hk⟩, stp⟩ := hr T hT X
  cases hv
  rw [h0] at hz hk
  obtain ⟨t2, a1, b1⟩ := kk v M' hp T'.heap (locs ++ L) ls (by rw [e1]; exact hh)
    ⟨Nat.le_trans hS.1 (by rw [e1]; exact hz), fun q h1 h2 => by rw [e1, hk q (Nat.lt_of_lt_of_le h1 hS.1) h2]; exact hS.2.1 q h1 h2, fun q hq => by
      rcases List.mem_append.mp hq with h | h
      · exact hS.2.2 q h
      · exact hL q h⟩ hl T' rfl X'
  exact ⟨t2, stp t2 a1, b1⟩
theorem rm_fit {R : Room} {d dc mL : Nat} (h : d ≤ R.frames ∧ 45 * d ≤ R.locals) (h1 : dc + 1 ≤ d) (h2 : mL ≤ 26) : (rmd dc).frames + 1 ≤ R.frames ∧ 8 + (mL + 11) + (rmd dc).locals ≤ R.locals := by
  simp only [rmd]; omega
theorem rm_sum {m : MethodId} {ls : Array Slot} {st rest : List Value} (h : (rest.map fun v => v.category).sum ≤ 8) : 2 * (F0 m pc ls st).monitorRoom + (rest.map fun v => v.category).sum ≤ 8 := lv_room h
theorem G_callV (C : Cx γ κ own cc nL d z) {y : MethodName} {bytes : ByteArray} {mL dc k ci idx n : Nat} {ret : Option FieldType} {As rest st0 : List Value} {fs : List Value} {q : vw_C} {post : Option Value → Mem → Prop}
    (hM : Ct γ.2.1 κ y bytes mL ret dc (.ref (κ.1 + k) :: As) M post) (hY : Yw y bytes mL ret n) (hi : Cond.instanceMethod y ∈ gw) (hs : Cond.selects y.cls y y ∈ gw) (hlk : Cond.methodLink own idx y ∈ gw) (hdc : dc + 1 ≤ d) (hn : As.length = n)
    (hk : k < 76) (he : shp κ k (M.1 k) (M.2 k) = .inr (ci, fs)) (hc : cls8[ci]? = some q) (hq : q.1 = y.cls) (hst : st0 = As.reverse ++ .ref (κ.1 + k) :: rest) (hrm : (rest.map fun v => v.category).sum ≤ 8) (hd : decode cc pc = .ok (.invokevirtual idx, 3))
    (kk : ∀ v M', post v M' → G γ κ nL z Q (pc + 3) lv (v.toList ++ rest) M') : G γ κ nL z Q pc lv st0 M := fun H locs ls hP hS hl => by
  have hrec := va_recv (q0 := k) C.2.2.2.2.2.1.1 hP hc (wl_at hk he)
  rw [hq] at hrec
  exact G_run hS hl (va_runV (As := As) (rest := rest) (n := n) (Ts := gw) (own := own) (C := y.cls) ⟨C.1, C.2.1, C.2.2.1, C.2.2.2.1, C.2.2.2.2.1⟩ hM
    ⟨callB_of n C.2.2.2.2.1 (Yw_good hY.1) rfl rfl rfl (C.2.2.2.2.1 _ hY.2.1) (C.2.2.2.2.1 _ hlk) hY.2.2.1 (rm_fit C.2.2.2.2.2.2.1 hdc hY.2.2.2), C.2.2.2.2.1 _ hi, C.2.2.2.2.1 _ hs⟩
    ⟨pc_blind, hrec, fun U hU hW => ⟨rfl, by rw [hU]; exact hP, C.2.2.2.2.2.1.warm hW⟩⟩ rfl hn hl.1 hst (rm_sum hrm) hd ⟨C.2.2.2.2.2.2.2.1, C.2.2.2.2.2.2.2.2⟩) kk
theorem G_callS (C : Cx γ κ own cc nL d z) {y : MethodName} {bytes : ByteArray} {mL dc idx n : Nat} {ret : Option FieldType} {As rest st0 : List Value} {post : Option Value → Mem → Prop}
    (hM : Ct γ.2.1 κ y bytes mL ret dc As M post) (hY : Yw y bytes mL ret n) (hs : Cond.static y ∈ gw) (hlk : Cond.methodLink own idx y ∈ gw) (hdc : dc + 1 ≤ d) (hn : As.length = n)
    (hst : st0 = As.reverse ++ rest) (hrm : (rest.map fun v => v.category).sum ≤ 8) (hd : decode cc pc = .ok (.invokestatic idx, 3))
    (kk : ∀ v M', post v M' → G γ κ nL z Q (pc + 3) lv (v.toList ++ rest) M') : G γ κ nL z Q pc lv st0 M := fun H locs ls hP hS hl => by
  exact G_run hS hl (va_runS (As := As) (rest := rest) (n := n) (Ts := gw) (own := own) ⟨C.1, C.2.1, C.2.2.1, C.2.2.2.1, C.2.2.2.2.1⟩ hM
    ⟨callB_of n C.2.2.2.2.1 (Yw_good hY.1) rfl rfl rfl (C.2.2.2.2.1 _ hY.2.1) (C.2.2.2.2.1 _ hlk) hY.2.2.1 (rm_fit C.2.2.2.2.2.2.1 hdc hY.2.2.2), C.2.2.2.2.1 _ hs⟩
    ⟨pc_blind, fun U hU hW => ⟨rfl, by rw [hU]; exact hP, C.2.2.2.2.2.1.warm hW⟩⟩ rfl hn hl.1 hst (rm_sum hrm) hd ⟨C.2.2.2.2.2.2.2.1, C.2.2.2.2.2.2.2.2⟩) kk
theorem G_callSN (C : Cx γ κ own cc nL d z) {y : MethodName} {host : String} {bytes : ByteArray} {mL dc idx n : Nat} {ret : Option FieldType} {As rest st0 : List Value} {post : Option Value → Mem → Prop}
    (hM : Ct γ.2.1 κ y bytes mL ret dc As M post) (hY : Yw y bytes mL ret n) (hs : Cond.static y ∈ gw) (hlk : (own, idx, y, host) ∈ nestW) (hdc : dc + 1 ≤ d) (hn : As.length = n)
    (hst : st0 = As.reverse ++ rest) (hrm : (rest.map fun v => v.category).sum ≤ 8) (hd : decode cc pc = .ok (.invokestatic idx, 3))
    (kk : ∀ v M', post v M' → G γ κ nL z Q (pc + 3) lv (v.toList ++ rest) M') : G γ κ nL z Q pc lv st0 M := fun H locs ls hP hS hl => by
  exact G_run hS hl (va_runSN (As := As) (rest := rest) (n := n) (Ts := gw) (own := own) ⟨C.1, C.2.1, C.2.2.1, C.2.2.2.1, C.2.2.2.2.1⟩ hM
    ⟨va_cnB n C.2.2.2.2.1 (Yw_good hY.1) rfl rfl rfl (C.2.2.2.2.2.1.2 _ hlk) (C.2.2.2.2.1 _ hY.2.1) hY.2.2.1 (rm_fit C.2.2.2.2.2.2.1 hdc hY.2.2.2), C.2.2.2.2.1 _ hs, trivial⟩
    ⟨pc_blind, fun U hU hW => ⟨rfl, by rw [hU]; exact hP, C.2.2.2.2.2.1.warm hW⟩⟩ rfl hn hl.1 hst (rm_sum hrm) hd ⟨C.2.2.2.2.2.2.2.1, C.2.2.2.2.2.2.2.2⟩) kk
/-! returns -/
theorem G_iret (C : Cx γ κ own cc nL d (0, 0)) (R : Rt γ (some .int)) {v : Int32} {post : Option Value → Mem → Prop} (hd : decode cc pc = .ok (.ireturn, 1)) (hp : post (some (.int v)) M) : G γ κ nL (0, 0) (Gq γ κ post) pc lv [.int v] M := fun H locs ls hP hS hl =>
  W.iret (hlocks := R.2) C.1 C.2.1 R.1 (fun t ht hW => ⟨⟨_, M, rfl, hp, by rw [ht]; exact hP⟩, hS.F ht⟩) hS.2.2 hd
theorem G_zret (C : Cx γ κ own cc nL d (0, 0)) (R : Rt γ (some .boolean)) {v : Int32} {post : Option Value → Mem → Prop} (hn : narrow .boolean (.int v) = .int v) (hd : decode cc pc = .ok (.ireturn, 1)) (hp : post (some (.int v)) M) : G γ κ nL (0, 0) (Gq γ κ post) pc lv [.int v] M := fun H locs ls hP hS hl =>
  W.zret (hlocks := R.2) C.1 C.2.1 R.1 hn (fun t ht hW => ⟨⟨_, M, rfl, hp, by rw [ht]; exact hP⟩, hS.F ht⟩) hS.2.2 hd
theorem G_lret (C : Cx γ κ own cc nL d (0, 0)) (R : Rt γ (some .long)) {v : Int64} {post : Option Value → Mem → Prop} (hd : decode cc pc = .ok (.lreturn, 1)) (hp : post (some (.long v)) M) : G γ κ nL (0, 0) (Gq γ κ post) pc lv [.long v] M := fun H locs ls hP hS hl =>
  W.lret (hlocks := R.2) C.1 C.2.1 R.1 (fun t ht hW => ⟨⟨_, M, rfl, hp, by rw [ht]; exact hP⟩, hS.F ht⟩) hS.2.2 hd
theorem G_vret (C : Cx γ κ own cc nL d (0, 0)) (R : Rt γ none) {post : Option Value → Mem → Prop} (hd : decode cc pc = .ok (.return_, 1)) (hp : post none M) : G γ κ nL (0, 0) (Gq γ κ post) pc lv [] M := fun H locs ls hP hS hl =>
  W.vret (hlocks := R.2) C.1 C.2.1 R.1 (fun t ht hW => ⟨⟨_, M, rfl, hp, by rw [ht]; exact hP⟩, hS.F ht⟩) hS.2.2 hd
theorem G_aret (C : Cx γ κ own cc nL d (0, 0)) {cn : String} (R : Rt γ (some (.object cn))) {r : Option Nat} {post : Option Value → Mem → Prop} (hd : decode cc pc = .ok (.areturn, 1)) (hp : post (some (fv κ r)) M) : G γ κ nL (0, 0) (Gq γ κ post) pc lv [fv κ r] M := fun H locs ls hP hS hl =>
  W.aret (hlocks := R.2) C.1 C.2.1 R.1 (Or.inl ⟨_, rfl⟩) (by cases r; exact Or.inl rfl; exact Or.inr ⟨_, rfl⟩) (fun t ht hW => ⟨⟨_, M, rfl, hp, by rw [ht]; exact hP⟩, hS.F ht⟩) hS.2.2 hd
/-! what the answers are -/
def pI (p : Int32 → Mem → Prop) : Option Value → Mem → Prop := fun v M => ∃ r, v = some (.int r) ∧ p r M
def pJ (p : Int64 → Mem → Prop) : Option Value → Mem → Prop := fun v M => ∃ r, v = some (.long r) ∧ p r M
def pV (p : Mem → Prop) : Option Value → Mem → Prop := fun v M => v = none ∧ p M
def pF (κ : Kp) (p : Option Nat → Mem → Prop) : Option Value → Mem → Prop := fun v M => ∃ r, v = some (fv κ r) ∧ p r M

end GR
