section PWR
variable {f : Fx} {cc : ByteArray} {nL : Nat} {own : String} {Ts : List Cond} {rm : Room} {cells slots : Nat} {g : Gm} {I : Mm} {pc q : Nat} {lv : List (Nat × Value)} {st : List Value}
theorem r_iload_n (hC : Cx f cc nL own Ts rm) {k : Fin 4} {i j : Nat} {v : Int32} (hd : decode cc pc = .ok (.iload_n k, 1)) (hq : pc + 1 = q) (hk : (k : Nat) = i) (hj : lv[j]? = some (i, .int v)) (kk : PW f cells slots g I q lv (.int v :: st)) : PW f cells slots g I pc lv st := by
  subst hq
  intro H locs ls hP hD hS hl
  exact lv_iload_n hC.1.1 hC.1.2.1 hd hk (lv_at hl j hj) (kk H locs ls hP hD hS hl)
theorem r_iload (hC : Cx f cc nL own Ts rm) {i j : Nat} {v : Int32} (hd : decode cc pc = .ok (.iload i, 2)) (hq : pc + 2 = q) (hj : lv[j]? = some (i, .int v)) (kk : PW f cells slots g I q lv (.int v :: st)) : PW f cells slots g I pc lv st := by
  subst hq
  intro H locs ls hP hD hS hl
  exact lv_iload hC.1.1 hC.1.2.1 hd (lv_at hl j hj) (kk H locs ls hP hD hS hl)
theorem r_lload_n (hC : Cx f cc nL own Ts rm) {k : Fin 4} {i j : Nat} {v : Int64} (hd : decode cc pc = .ok (.lload_n k, 1)) (hq : pc + 1 = q) (hk : (k : Nat) = i) (hj : lv[j]? = some (i, .long v)) (kk : PW f cells slots g I q lv (.long v :: st)) : PW f cells slots g I pc lv st := by
  subst hq
  intro H locs ls hP hD hS hl
  exact lv_lload_n hC.1.1 hC.1.2.1 hd hk (lv_at hl j hj) (kk H locs ls hP hD hS hl)
theorem r_lload (hC : Cx f cc nL own Ts rm) {i j : Nat} {v : Int64} (hd : decode cc pc = .ok (.lload i, 2)) (hq : pc + 2 = q) (hj : lv[j]? = some (i, .long v)) (kk : PW f cells slots g I q lv (.long v :: st)) : PW f cells slots g I pc lv st := by
  subst hq
  intro H locs ls hP hD hS hl
  exact lv_lload hC.1.1 hC.1.2.1 hd (lv_at hl j hj) (kk H locs ls hP hD hS hl)
theorem r_aload_n (hC : Cx f cc nL own Ts rm) {k : Fin 4} {i j : Nat} {v : Nat} (hd : decode cc pc = .ok (.aload_n k, 1)) (hq : pc + 1 = q) (hk : (k : Nat) = i) (hj : lv[j]? = some (i, .ref v)) (kk : PW f cells slots g I q lv (.ref v :: st)) : PW f cells slots g I pc lv st := by
  subst hq
  intro H locs ls hP hD hS hl
  exact lv_aload_n hC.1.1 hC.1.2.1 hd hk (lv_at hl j hj) (kk H locs ls hP hD hS hl)
theorem r_aload (hC : Cx f cc nL own Ts rm) {i j : Nat} {v : Nat} (hd : decode cc pc = .ok (.aload i, 2)) (hq : pc + 2 = q) (hj : lv[j]? = some (i, .ref v)) (kk : PW f cells slots g I q lv (.ref v :: st)) : PW f cells slots g I pc lv st := by
  subst hq
  intro H locs ls hP hD hS hl
  exact lv_aload hC.1.1 hC.1.2.1 hd (lv_at hl j hj) (kk H locs ls hP hD hS hl)
theorem r_istore_n (hC : Cx f cc nL own Ts rm) {k : Fin 4} {i : Nat} {v : Int32} {lv' : List (Nat × Value)} (hd : decode cc pc = .ok (.istore_n k, 1)) (hq : pc + 1 = q) (hk : (k : Nat) = i) (hn : i < nL) (he : (i, Value.int v) :: lv.filter (fun q => !(q.1 == i) && !(q.1 + 1 == i && q.2.category == 2)) = lv') (kk : PW f cells slots g I q lv' st) : PW f cells slots g I pc lv (.int v :: st) := by
  subst hq
  intro H locs ls hP hD hS hl
  exact lv_istore_n hC.1.1 hC.1.2.1 hd hk hl (by rw [hC.2.2.2.2.2]; exact hn) he (fun ls' hl' => kk H locs ls' hP hD hS hl')
theorem r_istore (hC : Cx f cc nL own Ts rm) {i : Nat} {v : Int32} {lv' : List (Nat × Value)} (hd : decode cc pc = .ok (.istore i, 2)) (hq : pc + 2 = q) (hn : i < nL) (he : (i, Value.int v) :: lv.filter (fun q => !(q.1 == i) && !(q.1 + 1 == i && q.2.category == 2)) = lv') (kk : PW f cells slots g I q lv' st) : PW f cells slots g I pc lv (.int v :: st) := by
  subst hq
  intro H locs ls hP hD hS hl
  exact lv_istore hC.1.1 hC.1.2.1 hd hl (by rw [hC.2.2.2.2.2]; exact hn) he (fun ls' hl' => kk H locs ls' hP hD hS hl')
theorem r_lstore_n (hC : Cx f cc nL own Ts rm) {k : Fin 4} {i : Nat} {v : Int64} {lv' : List (Nat × Value)} (hd : decode cc pc = .ok (.lstore_n k, 1)) (hq : pc + 1 = q) (hk : (k : Nat) = i) (hn : i + 1 < nL) (he : (i, Value.long v) :: lv.filter (fun q => !(q.1 == i) && (!(q.1 == i + 1) && !(q.1 + 1 == i && q.2.category == 2))) = lv') (kk : PW f cells slots g I q lv' st) : PW f cells slots g I pc lv (.long v :: st) := by
  subst hq
  intro H locs ls hP hD hS hl
  exact lv_lstore_n hC.1.1 hC.1.2.1 hd hk hl (by rw [hC.2.2.2.2.2]; exact hn) he (fun ls' hl' => kk H locs ls' hP hD hS hl')
theorem r_lstore (hC : Cx f cc nL own Ts rm) {i : Nat} {v : Int64} {lv' : List (Nat × Value)} (hd : decode cc pc = .ok (.lstore i, 2)) (hq : pc + 2 = q) (hn : i + 1 < nL) (he : (i, Value.long v) :: lv.filter (fun q => !(q.1 == i) && (!(q.1 == i + 1) && !(q.1 + 1 == i && q.2.category == 2))) = lv') (kk : PW f cells slots g I q lv' st) : PW f cells slots g I pc lv (.long v :: st) := by
  subst hq
  intro H locs ls hP hD hS hl
  exact lv_lstore hC.1.1 hC.1.2.1 hd hl (by rw [hC.2.2.2.2.2]; exact hn) he (fun ls' hl' => kk H locs ls' hP hD hS hl')
theorem r_astore_n (hC : Cx f cc nL own Ts rm) {k : Fin 4} {i : Nat} {v : Nat} {lv' : List (Nat × Value)} (hd : decode cc pc = .ok (.astore_n k, 1)) (hq : pc + 1 = q) (hk : (k : Nat) = i) (hn : i < nL) (he : (i, Value.ref v) :: lv.filter (fun q => !(q.1 == i) && !(q.1 + 1 == i && q.2.category == 2)) = lv') (kk : PW f cells slots g I q lv' st) : PW f cells slots g I pc lv (.ref v :: st) := by
  subst hq
  intro H locs ls hP hD hS hl
  exact lv_astore_n hC.1.1 hC.1.2.1 hd hk hl (by rw [hC.2.2.2.2.2]; exact hn) he (fun ls' hl' => kk H locs ls' hP hD hS hl')
theorem r_astore (hC : Cx f cc nL own Ts rm) {i : Nat} {v : Nat} {lv' : List (Nat × Value)} (hd : decode cc pc = .ok (.astore i, 2)) (hq : pc + 2 = q) (hn : i < nL) (he : (i, Value.ref v) :: lv.filter (fun q => !(q.1 == i) && !(q.1 + 1 == i && q.2.category == 2)) = lv') (kk : PW f cells slots g I q lv' st) : PW f cells slots g I pc lv (.ref v :: st) := by
  subst hq
  intro H locs ls hP hD hS hl
  exact lv_astore hC.1.1 hC.1.2.1 hd hl (by rw [hC.2.2.2.2.2]; exact hn) he (fun ls' hl' => kk H locs ls' hP hD hS hl')
theorem r_iinc (hC : Cx f cc nL own Ts rm) {i j : Nat} {n : Int} {v k : Int32} {lv' : List (Nat × Value)} (hd : decode cc pc = .ok (.iinc i n, 3)) (hq : pc + 3 = q) (hj : lv[j]? = some (i, .int v)) (hv : Int32.ofInt n = k) (hn : i < nL) (he : (i, Value.int (v + k)) :: lv.filter (fun q => !(q.1 == i) && !(q.1 + 1 == i && q.2.category == 2)) = lv') (kk : PW f cells slots g I q lv' st) : PW f cells slots g I pc lv st := by
  subst hq
  subst hv
  intro H locs ls hP hD hS hl
  exact lv_iinc hC.1.1 hC.1.2.1 hd hl hj rfl (by rw [hC.2.2.2.2.2]; exact hn) he (fun ls' hl' => kk H locs ls' hP hD hS hl')
theorem r_iconst (hC : Cx f cc nL own Ts rm) {n : Int} {v : Int32} (hd : decode cc pc = .ok (.iconst n, 1)) (hq : pc + 1 = q) (hv : Int32.ofInt n = v) (kk : PW f cells slots g I q lv (.int v :: st)) : PW f cells slots g I pc lv st := by
  subst hq
  intro H locs ls hP hD hS hl
  exact lv_iconst hC.1.1 hC.1.2.1 hd hv (kk H locs ls hP hD hS hl)
theorem r_bipush (hC : Cx f cc nL own Ts rm) {n : Int} {v : Int32} (hd : decode cc pc = .ok (.bipush n, 2)) (hq : pc + 2 = q) (hv : (Int8.ofInt n).toInt32 = v) (kk : PW f cells slots g I q lv (.int v :: st)) : PW f cells slots g I pc lv st := by
  subst hq
  intro H locs ls hP hD hS hl
  exact lv_bipush hC.1.1 hC.1.2.1 hd hv (kk H locs ls hP hD hS hl)
theorem r_sipush (hC : Cx f cc nL own Ts rm) {n : Int} {v : Int32} (hd : decode cc pc = .ok (.sipush n, 3)) (hq : pc + 3 = q) (hv : (Int16.ofInt n).toInt32 = v) (kk : PW f cells slots g I q lv (.int v :: st)) : PW f cells slots g I pc lv st := by
  subst hq
  intro H locs ls hP hD hS hl
  exact lv_sipush hC.1.1 hC.1.2.1 hd hv (kk H locs ls hP hD hS hl)
theorem r_lconst (hC : Cx f cc nL own Ts rm) {n : Fin 2} {v : Int64} (hd : decode cc pc = .ok (.lconst n, 1)) (hq : pc + 1 = q) (hv : Int64.ofNat (n : Nat) = v) (kk : PW f cells slots g I q lv (.long v :: st)) : PW f cells slots g I pc lv st := by
  subst hq
  intro H locs ls hP hD hS hl
  exact lv_lconst hC.1.1 hC.1.2.1 hd hv (kk H locs ls hP hD hS hl)
theorem r_ldc2 (hC : Cx f cc nL own Ts rm) {index : Nat} {v : Int64} (hd : decode cc pc = .ok (.ldc2_w index, 3)) (hq : pc + 3 = q) (hw : Cond.constantLong own index v ∈ Ts) (kk : PW f cells slots g I q lv (.long v :: st)) : PW f cells slots g I pc lv st := by
  subst hq
  intro H locs ls hP hD hS hl
  exact lv_ldc2 hC.1.1 hC.1.2.1 hC.1.2.2.2.1 (hC.1.2.2.2.2 _ hw) hd (kk H locs ls hP hD hS hl)
theorem r_ldcw (hC : Cx f cc nL own Ts rm) {index : Nat} {v : Int32} (hd : decode cc pc = .ok (.ldc_w index, 3)) (hq : pc + 3 = q) (hw : Cond.constant own index v ∈ Ts) (kk : PW f cells slots g I q lv (.int v :: st)) : PW f cells slots g I pc lv st := by
  subst hq
  intro H locs ls hP hD hS hl
  exact lv_ldcw hC.1.1 hC.1.2.1 hC.1.2.2.2.1 (hC.1.2.2.2.2 _ hw) hd (kk H locs ls hP hD hS hl)
theorem r_iadd (hC : Cx f cc nL own Ts rm) {x y : Int32} (hd : decode cc pc = .ok (.iadd, 1)) (hq : pc + 1 = q) (kk : PW f cells slots g I q lv (.int (x + y) :: st)) : PW f cells slots g I pc lv (.int y :: .int x :: st) := by
  subst hq
  intro H locs ls hP hD hS hl
  exact lv_iadd hC.1.1 hC.1.2.1 hd (kk H locs ls hP hD hS hl)
theorem r_isub (hC : Cx f cc nL own Ts rm) {x y : Int32} (hd : decode cc pc = .ok (.isub, 1)) (hq : pc + 1 = q) (kk : PW f cells slots g I q lv (.int (x - y) :: st)) : PW f cells slots g I pc lv (.int y :: .int x :: st) := by
  subst hq
  intro H locs ls hP hD hS hl
  exact lv_isub hC.1.1 hC.1.2.1 hd (kk H locs ls hP hD hS hl)
theorem r_imul (hC : Cx f cc nL own Ts rm) {x y : Int32} (hd : decode cc pc = .ok (.imul, 1)) (hq : pc + 1 = q) (kk : PW f cells slots g I q lv (.int (x * y) :: st)) : PW f cells slots g I pc lv (.int y :: .int x :: st) := by
  subst hq
  intro H locs ls hP hD hS hl
  exact lv_imul hC.1.1 hC.1.2.1 hd (kk H locs ls hP hD hS hl)
theorem r_iand (hC : Cx f cc nL own Ts rm) {x y : Int32} (hd : decode cc pc = .ok (.iand, 1)) (hq : pc + 1 = q) (kk : PW f cells slots g I q lv (.int (x &&& y) :: st)) : PW f cells slots g I pc lv (.int y :: .int x :: st) := by
  subst hq
  intro H locs ls hP hD hS hl
  exact lv_iand hC.1.1 hC.1.2.1 hd (kk H locs ls hP hD hS hl)
theorem r_ior (hC : Cx f cc nL own Ts rm) {x y : Int32} (hd : decode cc pc = .ok (.ior, 1)) (hq : pc + 1 = q) (kk : PW f cells slots g I q lv (.int (x ||| y) :: st)) : PW f cells slots g I pc lv (.int y :: .int x :: st) := by
  subst hq
  intro H locs ls hP hD hS hl
  exact lv_ior hC.1.1 hC.1.2.1 hd (kk H locs ls hP hD hS hl)
theorem r_ixor (hC : Cx f cc nL own Ts rm) {x y : Int32} (hd : decode cc pc = .ok (.ixor, 1)) (hq : pc + 1 = q) (kk : PW f cells slots g I q lv (.int (x ^^^ y) :: st)) : PW f cells slots g I pc lv (.int y :: .int x :: st) := by
  subst hq
  intro H locs ls hP hD hS hl
  exact lv_ixor hC.1.1 hC.1.2.1 hd (kk H locs ls hP hD hS hl)
theorem r_ishl (hC : Cx f cc nL own Ts rm) {x y : Int32} (hd : decode cc pc = .ok (.ishl, 1)) (hq : pc + 1 = q) (kk : PW f cells slots g I q lv (.int (x <<< (y &&& 31)) :: st)) : PW f cells slots g I pc lv (.int y :: .int x :: st) := by
  subst hq
  intro H locs ls hP hD hS hl
  exact lv_ishl hC.1.1 hC.1.2.1 hd (kk H locs ls hP hD hS hl)
theorem r_ishr (hC : Cx f cc nL own Ts rm) {x y : Int32} (hd : decode cc pc = .ok (.ishr, 1)) (hq : pc + 1 = q) (kk : PW f cells slots g I q lv (.int (x >>> (y &&& 31)) :: st)) : PW f cells slots g I pc lv (.int y :: .int x :: st) := by
  subst hq
  intro H locs ls hP hD hS hl
  exact lv_ishr hC.1.1 hC.1.2.1 hd (kk H locs ls hP hD hS hl)
theorem r_ladd (hC : Cx f cc nL own Ts rm) {x y : Int64} (hd : decode cc pc = .ok (.ladd, 1)) (hq : pc + 1 = q) (kk : PW f cells slots g I q lv (.long (x + y) :: st)) : PW f cells slots g I pc lv (.long y :: .long x :: st) := by
  subst hq
  intro H locs ls hP hD hS hl
  exact lv_ladd hC.1.1 hC.1.2.1 hd (kk H locs ls hP hD hS hl)
theorem r_lsub (hC : Cx f cc nL own Ts rm) {x y : Int64} (hd : decode cc pc = .ok (.lsub, 1)) (hq : pc + 1 = q) (kk : PW f cells slots g I q lv (.long (x - y) :: st)) : PW f cells slots g I pc lv (.long y :: .long x :: st) := by
  subst hq
  intro H locs ls hP hD hS hl
  exact lv_lsub hC.1.1 hC.1.2.1 hd (kk H locs ls hP hD hS hl)
theorem r_lmul (hC : Cx f cc nL own Ts rm) {x y : Int64} (hd : decode cc pc = .ok (.lmul, 1)) (hq : pc + 1 = q) (kk : PW f cells slots g I q lv (.long (x * y) :: st)) : PW f cells slots g I pc lv (.long y :: .long x :: st) := by
  subst hq
  intro H locs ls hP hD hS hl
  exact lv_lmul hC.1.1 hC.1.2.1 hd (kk H locs ls hP hD hS hl)
theorem r_iushr (hC : Cx f cc nL own Ts rm) {x y : Int32} (hd : decode cc pc = .ok (.iushr, 1)) (hq : pc + 1 = q) (kk : PW f cells slots g I q lv (.int ((x.toUInt32 >>> (y.toUInt32 &&& Int32.toUInt32 31)).toInt32) :: st)) : PW f cells slots g I pc lv (.int y :: .int x :: st) := by
  subst hq
  intro H locs ls hP hD hS hl
  exact lv_iushr hC.1.1 hC.1.2.1 hd rfl (kk H locs ls hP hD hS hl)
theorem r_ldiv (hC : Cx f cc nL own Ts rm) {x y : Int64} (hd : decode cc pc = .ok (.ldiv, 1)) (hq : pc + 1 = q) (hne : ¬ y = 0) (kk : PW f cells slots g I q lv (.long (x / y) :: st)) : PW f cells slots g I pc lv (.long y :: .long x :: st) := by
  subst hq
  intro H locs ls hP hD hS hl
  exact lv_ldiv hC.1.1 hC.1.2.1 hd hne (kk H locs ls hP hD hS hl)
theorem r_lrem (hC : Cx f cc nL own Ts rm) {x y : Int64} (hd : decode cc pc = .ok (.lrem, 1)) (hq : pc + 1 = q) (hne : ¬ y = 0) (kk : PW f cells slots g I q lv (.long (x - x / y * y) :: st)) : PW f cells slots g I pc lv (.long y :: .long x :: st) := by
  subst hq
  intro H locs ls hP hD hS hl
  exact lv_lrem hC.1.1 hC.1.2.1 hd hne (kk H locs ls hP hD hS hl)
theorem r_lcmp (hC : Cx f cc nL own Ts rm) {x y : Int64} (hd : decode cc pc = .ok (.lcmp, 1)) (hq : pc + 1 = q) (kk : PW f cells slots g I q lv (.int (lg_cmp x y) :: st)) : PW f cells slots g I pc lv (.long y :: .long x :: st) := by
  subst hq
  intro H locs ls hP hD hS hl
  exact W.lcmp hC.1.1 hC.1.2.1 hd (kk H locs ls hP hD hS hl)
theorem r_i2l (hC : Cx f cc nL own Ts rm) {x : Int32} (hd : decode cc pc = .ok (.i2l, 1)) (hq : pc + 1 = q) (kk : PW f cells slots g I q lv (.long x.toInt64 :: st)) : PW f cells slots g I pc lv (.int x :: st) := by
  subst hq
  intro H locs ls hP hD hS hl
  exact lv_i2l hC.1.1 hC.1.2.1 hd rfl (kk H locs ls hP hD hS hl)
theorem r_i2b (hC : Cx f cc nL own Ts rm) {x : Int32} (hd : decode cc pc = .ok (.i2b, 1)) (hq : pc + 1 = q) (kk : PW f cells slots g I q lv (.int x.toInt8.toInt32 :: st)) : PW f cells slots g I pc lv (.int x :: st) := by
  subst hq
  intro H locs ls hP hD hS hl
  exact lv_i2b hC.1.1 hC.1.2.1 hd rfl (kk H locs ls hP hD hS hl)
theorem r_i2s (hC : Cx f cc nL own Ts rm) {x : Int32} (hd : decode cc pc = .ok (.i2s, 1)) (hq : pc + 1 = q) (kk : PW f cells slots g I q lv (.int x.toInt16.toInt32 :: st)) : PW f cells slots g I pc lv (.int x :: st) := by
  subst hq
  intro H locs ls hP hD hS hl
  exact lv_i2s hC.1.1 hC.1.2.1 hd rfl (kk H locs ls hP hD hS hl)
theorem r_dup (hC : Cx f cc nL own Ts rm) {v : Value} (hd : decode cc pc = .ok (.dup, 1)) (hq : pc + 1 = q) (hv : v.category = 1) (kk : PW f cells slots g I q lv (v :: v :: st)) : PW f cells slots g I pc lv (v :: st) := by
  subst hq
  intro H locs ls hP hD hS hl
  exact lv_dup hC.1.1 hC.1.2.1 hd hv (kk H locs ls hP hD hS hl)
theorem r_pop (hC : Cx f cc nL own Ts rm) {v : Value} (hd : decode cc pc = .ok (.pop, 1)) (hq : pc + 1 = q) (hv : v.category = 1) (kk : PW f cells slots g I q lv st) : PW f cells slots g I pc lv (v :: st) := by
  subst hq
  intro H locs ls hP hD hS hl
  exact lv_pop hC.1.1 hC.1.2.1 hd hv (kk H locs ls hP hD hS hl)
theorem r_icmp_eq (hC : Cx f cc nL own Ts rm) {x y : Int32} {off : Int} {tgt : Nat} (hd : decode cc pc = .ok (.if_icmp .eq off, 3)) (hq : pc + 3 = q) (ht : (pc : Int) + off = (tgt : Int)) {P1 P2 : Prop} (hw : if x = y then P1 else P2) (k1 : P1 → PW f cells slots g I tgt lv st) (k2 : P2 → PW f cells slots g I q lv st) : PW f cells slots g I pc lv (.int y :: .int x :: st) := by
  subst hq
  intro H locs ls hP hD hS hl
  exact lv_icmp_eq hC.1.1 hC.1.2.1 hd ht (fun h => k1 (by rw [if_pos h] at hw; exact hw) H locs ls hP hD hS hl) (fun h => k2 (by rw [if_neg h] at hw; exact hw) H locs ls hP hD hS hl)
theorem r_if_eq (hC : Cx f cc nL own Ts rm) {x : Int32} {off : Int} {tgt : Nat} (hd : decode cc pc = .ok (.ifCond .eq off, 3)) (hq : pc + 3 = q) (ht : (pc : Int) + off = (tgt : Int)) {P1 P2 : Prop} (hw : if x = 0 then P1 else P2) (k1 : P1 → PW f cells slots g I tgt lv st) (k2 : P2 → PW f cells slots g I q lv st) : PW f cells slots g I pc lv (.int x :: st) := by
  subst hq
  intro H locs ls hP hD hS hl
  exact lv_if_eq hC.1.1 hC.1.2.1 hd ht (fun h => k1 (by rw [if_pos h] at hw; exact hw) H locs ls hP hD hS hl) (fun h => k2 (by rw [if_neg h] at hw; exact hw) H locs ls hP hD hS hl)
theorem r_icmp_ne (hC : Cx f cc nL own Ts rm) {x y : Int32} {off : Int} {tgt : Nat} (hd : decode cc pc = .ok (.if_icmp .ne off, 3)) (hq : pc + 3 = q) (ht : (pc : Int) + off = (tgt : Int)) {P1 P2 : Prop} (hw : if x = y then P2 else P1) (k1 : P1 → PW f cells slots g I tgt lv st) (k2 : P2 → PW f cells slots g I q lv st) : PW f cells slots g I pc lv (.int y :: .int x :: st) := by
  subst hq
  intro H locs ls hP hD hS hl
  exact lv_icmp_ne hC.1.1 hC.1.2.1 hd ht (fun h => k1 (by rw [if_neg h] at hw; exact hw) H locs ls hP hD hS hl) (fun h => k2 (by rw [if_pos h] at hw; exact hw) H locs ls hP hD hS hl)
theorem r_if_ne (hC : Cx f cc nL own Ts rm) {x : Int32} {off : Int} {tgt : Nat} (hd : decode cc pc = .ok (.ifCond .ne off, 3)) (hq : pc + 3 = q) (ht : (pc : Int) + off = (tgt : Int)) {P1 P2 : Prop} (hw : if x = 0 then P2 else P1) (k1 : P1 → PW f cells slots g I tgt lv st) (k2 : P2 → PW f cells slots g I q lv st) : PW f cells slots g I pc lv (.int x :: st) := by
  subst hq
  intro H locs ls hP hD hS hl
  exact lv_if_ne hC.1.1 hC.1.2.1 hd ht (fun h => k1 (by rw [if_neg h] at hw; exact hw) H locs ls hP hD hS hl) (fun h => k2 (by rw [if_pos h] at hw; exact hw) H locs ls hP hD hS hl)
theorem r_icmp_lt (hC : Cx f cc nL own Ts rm) {x y : Int32} {off : Int} {tgt : Nat} (hd : decode cc pc = .ok (.if_icmp .lt off, 3)) (hq : pc + 3 = q) (ht : (pc : Int) + off = (tgt : Int)) {P1 P2 : Prop} (hw : if x < y then P1 else P2) (k1 : P1 → PW f cells slots g I tgt lv st) (k2 : P2 → PW f cells slots g I q lv st) : PW f cells slots g I pc lv (.int y :: .int x :: st) := by
  subst hq
  intro H locs ls hP hD hS hl
  exact lv_icmp_lt hC.1.1 hC.1.2.1 hd ht (fun h => k1 (by rw [if_pos h] at hw; exact hw) H locs ls hP hD hS hl) (fun h => k2 (by rw [if_neg h] at hw; exact hw) H locs ls hP hD hS hl)
theorem r_if_lt (hC : Cx f cc nL own Ts rm) {x : Int32} {off : Int} {tgt : Nat} (hd : decode cc pc = .ok (.ifCond .lt off, 3)) (hq : pc + 3 = q) (ht : (pc : Int) + off = (tgt : Int)) {P1 P2 : Prop} (hw : if x < 0 then P1 else P2) (k1 : P1 → PW f cells slots g I tgt lv st) (k2 : P2 → PW f cells slots g I q lv st) : PW f cells slots g I pc lv (.int x :: st) := by
  subst hq
  intro H locs ls hP hD hS hl
  exact lv_if_lt hC.1.1 hC.1.2.1 hd ht (fun h => k1 (by rw [if_pos h] at hw; exact hw) H locs ls hP hD hS hl) (fun h => k2 (by rw [if_neg h] at hw; exact hw) H locs ls hP hD hS hl)
theorem r_icmp_ge (hC : Cx f cc nL own Ts rm) {x y : Int32} {off : Int} {tgt : Nat} (hd : decode cc pc = .ok (.if_icmp .ge off, 3)) (hq : pc + 3 = q) (ht : (pc : Int) + off = (tgt : Int)) {P1 P2 : Prop} (hw : if y ≤ x then P1 else P2) (k1 : P1 → PW f cells slots g I tgt lv st) (k2 : P2 → PW f cells slots g I q lv st) : PW f cells slots g I pc lv (.int y :: .int x :: st) := by
  subst hq
  intro H locs ls hP hD hS hl
  exact lv_icmp_ge hC.1.1 hC.1.2.1 hd ht (fun h => k1 (by rw [if_pos h] at hw; exact hw) H locs ls hP hD hS hl) (fun h => k2 (by rw [if_neg h] at hw; exact hw) H locs ls hP hD hS hl)
theorem r_if_ge (hC : Cx f cc nL own Ts rm) {x : Int32} {off : Int} {tgt : Nat} (hd : decode cc pc = .ok (.ifCond .ge off, 3)) (hq : pc + 3 = q) (ht : (pc : Int) + off = (tgt : Int)) {P1 P2 : Prop} (hw : if 0 ≤ x then P1 else P2) (k1 : P1 → PW f cells slots g I tgt lv st) (k2 : P2 → PW f cells slots g I q lv st) : PW f cells slots g I pc lv (.int x :: st) := by
  subst hq
  intro H locs ls hP hD hS hl
  exact lv_if_ge hC.1.1 hC.1.2.1 hd ht (fun h => k1 (by rw [if_pos h] at hw; exact hw) H locs ls hP hD hS hl) (fun h => k2 (by rw [if_neg h] at hw; exact hw) H locs ls hP hD hS hl)
theorem r_icmp_gt (hC : Cx f cc nL own Ts rm) {x y : Int32} {off : Int} {tgt : Nat} (hd : decode cc pc = .ok (.if_icmp .gt off, 3)) (hq : pc + 3 = q) (ht : (pc : Int) + off = (tgt : Int)) {P1 P2 : Prop} (hw : if y < x then P1 else P2) (k1 : P1 → PW f cells slots g I tgt lv st) (k2 : P2 → PW f cells slots g I q lv st) : PW f cells slots g I pc lv (.int y :: .int x :: st) := by
  subst hq
  intro H locs ls hP hD hS hl
  exact lv_icmp_gt hC.1.1 hC.1.2.1 hd ht (fun h => k1 (by rw [if_pos h] at hw; exact hw) H locs ls hP hD hS hl) (fun h => k2 (by rw [if_neg h] at hw; exact hw) H locs ls hP hD hS hl)
theorem r_if_gt (hC : Cx f cc nL own Ts rm) {x : Int32} {off : Int} {tgt : Nat} (hd : decode cc pc = .ok (.ifCond .gt off, 3)) (hq : pc + 3 = q) (ht : (pc : Int) + off = (tgt : Int)) {P1 P2 : Prop} (hw : if 0 < x then P1 else P2) (k1 : P1 → PW f cells slots g I tgt lv st) (k2 : P2 → PW f cells slots g I q lv st) : PW f cells slots g I pc lv (.int x :: st) := by
  subst hq
  intro H locs ls hP hD hS hl
  exact lv_if_gt hC.1.1 hC.1.2.1 hd ht (fun h => k1 (by rw [if_pos h] at hw; exact hw) H locs ls hP hD hS hl) (fun h => k2 (by rw [if_neg h] at hw; exact hw) H locs ls hP hD hS hl)
theorem r_icmp_le (hC : Cx f cc nL own Ts rm) {x y : Int32} {off : Int} {tgt : Nat} (hd : decode cc pc = .ok (.if_icmp .le off, 3)) (hq : pc + 3 = q) (ht : (pc : Int) + off = (tgt : Int)) {P1 P2 : Prop} (hw : if x ≤ y then P1 else P2) (k1 : P1 → PW f cells slots g I tgt lv st) (k2 : P2 → PW f cells slots g I q lv st) : PW f cells slots g I pc lv (.int y :: .int x :: st) := by
  subst hq
  intro H locs ls hP hD hS hl
  exact lv_icmp_le hC.1.1 hC.1.2.1 hd ht (fun h => k1 (by rw [if_pos h] at hw; exact hw) H locs ls hP hD hS hl) (fun h => k2 (by rw [if_neg h] at hw; exact hw) H locs ls hP hD hS hl)
theorem r_if_le (hC : Cx f cc nL own Ts rm) {x : Int32} {off : Int} {tgt : Nat} (hd : decode cc pc = .ok (.ifCond .le off, 3)) (hq : pc + 3 = q) (ht : (pc : Int) + off = (tgt : Int)) {P1 P2 : Prop} (hw : if x ≤ 0 then P1 else P2) (k1 : P1 → PW f cells slots g I tgt lv st) (k2 : P2 → PW f cells slots g I q lv st) : PW f cells slots g I pc lv (.int x :: st) := by
  subst hq
  intro H locs ls hP hD hS hl
  exact lv_if_le hC.1.1 hC.1.2.1 hd ht (fun h => k1 (by rw [if_pos h] at hw; exact hw) H locs ls hP hD hS hl) (fun h => k2 (by rw [if_neg h] at hw; exact hw) H locs ls hP hD hS hl)
theorem r_goto (hC : Cx f cc nL own Ts rm) {off : Int} {tgt : Nat} (hd : decode cc pc = .ok (.goto off, 3)) (ht : (pc : Int) + off = (tgt : Int)) (kk : PW f cells slots g I tgt lv st) : PW f cells slots g I pc lv st := by
  intro H locs ls hP hD hS hl
  exact lv_goto hC.1.1 hC.1.2.1 hd ht (kk H locs ls hP hD hS hl)
theorem r_tabIn (hC : Cx f cc nL own Ts rm) {dflt lo hi off : Int} {offs : Array Int} {len tgt : Nat} {x k : Int32} (hd : decode cc pc = .ok (.tableswitch dflt lo hi offs, len)) (hx : x = k) (v : Int) (hv : k.toInt = v) (h1 : ¬ v < lo) (h2 : ¬ hi < v) (ho : offs[(v - lo).toNat]? = some off) (ht : (pc : Int) + off = (tgt : Int)) (kk : PW f cells slots g I tgt lv st) : PW f cells slots g I pc lv (.int x :: st) := by
  subst hx
  subst hv
  intro H locs ls hP hD hS hl
  exact lv_tableIn hC.1.1 hC.1.2.1 hd h1 h2 ho ht (kk H locs ls hP hD hS hl)
theorem r_tabOut (hC : Cx f cc nL own Ts rm) {dflt lo hi : Int} {offs : Array Int} {len tgt : Nat} {x : Int32} (hd : decode cc pc = .ok (.tableswitch dflt lo hi offs, len)) (h : x.toInt < lo ∨ hi < x.toInt) (ht : (pc : Int) + dflt = (tgt : Int)) (kk : PW f cells slots g I tgt lv st) : PW f cells slots g I pc lv (.int x :: st) := by
  intro H locs ls hP hD hS hl
  exact lv_tableOut hC.1.1 hC.1.2.1 hd h ht (kk H locs ls hP hD hS hl)
theorem r_look (hC : Cx f cc nL own Ts rm) {dflt off : Int} {ps : Array (Int × Int)} {len tgt : Nat} {x : Int32} (hd : decode cc pc = .ok (.lookupswitch dflt ps, len)) (hp : (ps.toList.zip (ps.toList.drop 1)).all (fun (a, next) => a.1 < next.1) = true) (ho : Op.lookupswitch.offset ps.toList dflt x.toInt = off) (ht : (pc : Int) + off = (tgt : Int)) (kk : PW f cells slots g I tgt lv st) : PW f cells slots g I pc lv (.int x :: st) := by
  intro H locs ls hP hD hS hl
  exact lv_lookup hC.1.1 hC.1.2.1 hd hp ho ht (kk H locs ls hP hD hS hl)
theorem r_sub {lv' : List (Nat × Value)} (ks : List Nat) (he : lv_pick lv ks = lv') (kk : PW f cells slots g I pc lv' st) : PW f cells slots g I pc lv st := by
  intro H locs ls hP hD hS hl
  exact kk H locs ls hP hD hS (lv_sub hl ks he)
theorem r_widen {c2 s2 : Nat} (h1 : cells ≤ c2) (h2 : slots ≤ s2) (kk : PW f c2 s2 g I pc lv st) : PW f cells slots g I pc lv st := by
  intro H locs ls hP hD hS hl
  exact W.widen h1 h2 (kk H locs ls hP hD hS hl)
/-- a field of a kind, as the code of a class links it: what a read wants, and what a write wants besides -/
def FF (Ts : List Cond) (own : String) (index k i : Nat) : Prop := ∃ (C : String) (T : u_T) (N : Nat) (ref : String), vwCl[k]? = some (C, T, N) ∧ fN k = N ∧ k < 11 ∧ i < N ∧ (∀ w ∈ u_ws C T N, w ∈ Ts) ∧ Cond.fieldLink own index ref (T i).2.1 (T i).2.2.1 ∈ Ts ∧ ((T i).1 = ref ∨ Cond.sameField ref (T i).1 (T i).2.1 (T i).2.2.1 ∈ Ts)
def FP (k i : Nat) : Prop := ∃ (C : String) (T : u_T) (N : Nat) (ty0 : Nat → FieldType), vwCl[k]? = some (C, T, N) ∧ (∀ j, j < N → parseFieldDescriptor (T j).2.2.1 = some (ty0 j)) ∧ (∀ a, a < N → ∀ b, b < N → a ≠ b → (T a).2.1 ≠ (T b).2.1) ∧ (T i).2.2.2 = false ∧ parseFieldDescriptor (T i).2.2.1 = some .int
theorem r_getI (hC : Cx f cc nL own Ts rm) {c i index : Nat} {ks : List Nat} (hd : decode cc pc = .ok (.getfield index, 3)) (hq : pc + 3 = q) (hc : c ∈ gC g) (hk : gK g c ∈ ks) (hF : ∀ k ∈ ks, FF Ts own index k i ∧ fR k i = false) (kk : PW f cells slots g I q lv (.int (I c i) :: st)) : PW f cells slots g I pc lv (.ref (gA g c) :: st) := by
  subst hq
  intro H locs ls hP hD hS hl
  obtain ⟨⟨C, T, N, ref, h1, h2, h3, h4, h5, h6, h7⟩, h8⟩ := hF _ hk
  obtain ⟨p0, hp⟩ := wd_at (f_x f) I hc
  rw [en_o (f_x f) I rfl h3] at hp
  refine va_get hC.1.1 hC.1.2.1 hC.1.2.2.2.2 h5 hC.1.2.2.2.1 hC.2.1 hP p0 hp h1 i h4 (hC.1.2.2.2.2 _ h6) (fun z hz => ?_) (v := .int (I c i)) ?_ hd (kk H locs ls hP hD hS hl)
  · rcases h7 with h7 | h7
    · rw [← h7]; exact hz
    · exact u_same (hC.1.2.2.2.2 _ h7) z hz
  · rw [flds_at (by rw [h2]; exact h4)]; simp [fld, h8]
theorem r_getR (hC : Cx f cc nL own Ts rm) {c i index a : Nat} {ks : List Nat} (hd : decode cc pc = .ok (.getfield index, 3)) (hq : pc + 3 = q) (hc : c ∈ gC g) (hk : gK g c ∈ ks) (hF : ∀ k ∈ ks, FF Ts own index k i ∧ fR k i = true) (hr : gR g c i = some a) (kk : PW f cells slots g I q lv (.ref a :: st)) : PW f cells slots g I pc lv (.ref (gA g c) :: st) := by
  subst hq
  intro H locs ls hP hD hS hl
  obtain ⟨⟨C, T, N, ref, h1, h2, h3, h4, h5, h6, h7⟩, h8⟩ := hF _ hk
  obtain ⟨p0, hp⟩ := wd_at (f_x f) I hc
  rw [en_o (f_x f) I rfl h3] at hp
  refine va_get hC.1.1 hC.1.2.1 hC.1.2.2.2.2 h5 hC.1.2.2.2.1 hC.2.1 hP p0 hp h1 i h4 (hC.1.2.2.2.2 _ h6) (fun z hz => ?_) (v := .ref a) ?_ hd (kk H locs ls hP hD hS hl)
  · rcases h7 with h7 | h7
    · rw [← h7]; exact hz
    · exact u_same (hC.1.2.2.2.2 _ h7) z hz
  · rw [flds_at (by rw [h2]; exact h4)]; simp [fld, h8, hr, va_rf]
theorem r_putI (hC : Cx f cc nL own Ts rm) {c i index : Nat} {v : Int32} {ks : List Nat} (hd : decode cc pc = .ok (.putfield index, 3)) (hq : pc + 3 = q) (hc : c ∈ gC g) (hk : gK g c ∈ ks) (hF : ∀ k ∈ ks, FF Ts own index k i ∧ fR k i = false ∧ FP k i) (kk : PW f cells slots g (up2 I c i v) q lv st) : PW f cells slots g I pc lv (.int v :: .ref (gA g c) :: st) := by
  subst hq
  intro H locs ls hP hD hS hl
  obtain ⟨⟨C, T, N, ref, h1, h2, h3, h4, h5, h6, h7⟩, h8, C', T', N', ty0, g1, g2, g3, g4, g5⟩ := hF _ hk
  cases h1.symm.trans g1
  obtain ⟨p0, hp⟩ := wd_at (f_x f) I hc
  have hp0 := hp
  rw [en_o (f_x f) I rfl h3] at hp
  refine va_put hC.1.1 hC.1.2.1 hC.1.2.2.2.2 h5 ty0 g2 g3 hC.1.2.2.2.1 hC.2.1 hP hD hS p0 hp h1 i h4 (hC.1.2.2.2.2 _ h6) (fun z hz => ?_) g4 g5 (v := .int v) rfl rfl (by rw [flds_len, h2]; exact h4) hd (fun H1 locs1 hP1 hD1 hS1 => ?_)
  · rcases h7 with h7 | h7
    · rw [← h7]; exact hz
    · exact u_same (hC.1.2.2.2.2 _ h7) z hz
  · have he := wd_set (g' := g) (I' := up2 I c i v) hD hc hp0 rfl rfl (fun d hd => en_up2 d hd) (en_o (f_x f) _ rfl h3)
    rw [flds_up2 h8, he] at hP1 hD1
    exact kk H1 locs1 ls hP1 hD1 hS1 hl
theorem r_iald (hC : Cx f cc nL own Ts rm) {c : Nat} {i : Int32} (hd : decode cc pc = .ok (.iaload, 1)) (hq : pc + 1 = q) (hc : c ∈ gC g) (hk : gK g c = 11) (hi : vp_in i (gL g c)) (kk : PW f cells slots g I q lv (.int (I c i.toNatClampNeg) :: st)) : PW f cells slots g I pc lv (.int i :: .ref (gA g c) :: st) := by
  subst hq
  intro H locs ls hP hD hS hl
  obtain ⟨p0, hp⟩ := wd_at (f_x f) I hc
  rw [en_i (f_x f) I hk] at hp
  exact va_iald hC.1.1 hC.1.2.1 hC.2.1 hP p0 0 hp rfl hi hd (kk H locs ls hP hD hS hl)
theorem r_iast (hC : Cx f cc nL own Ts rm) {c : Nat} {i v : Int32} (hd : decode cc pc = .ok (.iastore, 1)) (hq : pc + 1 = q) (hc : c ∈ gC g) (hk : gK g c = 11) (hi : vp_in i (gL g c)) (kk : PW f cells slots g (up2 I c i.toNatClampNeg v) q lv st) : PW f cells slots g I pc lv (.int v :: .int i :: .ref (gA g c) :: st) := by
  subst hq
  intro H locs ls hP hD hS hl
  obtain ⟨p0, hp⟩ := wd_at (f_x f) I hc
  have hp0 := hp
  rw [en_i (f_x f) I hk] at hp
  refine va_iast hC.1.1 hC.1.2.1 hC.2.1 hP hD hS p0 0 hp rfl hi hd (fun H1 locs1 hP1 hD1 hS1 => ?_)
  have he := wd_set (g' := g) (I' := up2 I c i.toNatClampNeg v) hD hc hp0 rfl rfl (fun d hd => en_up2 d hd) (e := .inl ((f_x f).2.1, gL g c, .inl (upd (I c) i.toNatClampNeg v))) (by rw [en_i (f_x f) _ hk]; simp [up2, va_up])
  rw [he] at hP1 hD1
  exact kk H1 locs1 ls hP1 hD1 hS1 hl
theorem r_aald (hC : Cx f cc nL own Ts rm) {c a : Nat} {i : Int32} (hd : decode cc pc = .ok (.aaload, 1)) (hq : pc + 1 = q) (hc : c ∈ gC g) (hk : gK g c = 12 ∨ gK g c = 13) (hi : vp_in i (gL g c)) (hr : gR g c i.toNatClampNeg = some a) (kk : PW f cells slots g I q lv (.ref a :: st)) : PW f cells slots g I pc lv (.int i :: .ref (gA g c) :: st) := by
  subst hq
  intro H locs ls hP hD hS hl
  obtain ⟨p0, hp⟩ := wd_at (f_x f) I hc
  have hv : va_rf (gR g c i.toNatClampNeg) = .ref a := by rw [hr]; rfl
  rcases hk with hk | hk
  · rw [en_q (f_x f) I hk] at hp
    exact va_aldq hC.1.1 hC.1.2.1 hC.2.1 hP p0 1 hp rfl hi hd (by rw [hv]; exact kk H locs ls hP hD hS hl)
  · rw [en_s (f_x f) I hk] at hp
    exact va_aldq hC.1.1 hC.1.2.1 hC.2.1 hP p0 2 hp rfl hi hd (by rw [hv]; exact kk H locs ls hP hD hS hl)

theorem r_copy (hC : Cx f cc nL own Ts rm) {c c2 : Nat} {sp dp n : Int32} {index : Nat} (hd : decode cc pc = .ok (.invokestatic index, 3)) (hq : pc + 3 = q) (hc : c ∈ gC g) (hk : gK g c = 11) (hc2 : c2 ∈ gC g) (hk2 : gK g c2 = 11) (h1 : ¬ sp < 0) (h2 : ¬ dp < 0) (h3 : ¬ n < 0) (h4 : sp.toNatClampNeg + n.toNatClampNeg ≤ gL g c) (h5 : dp.toNatClampNeg + n.toNatClampNeg ≤ gL g c2) (w1 : Cond.methodLink own index arraycopyName ∈ Ts) (w2 : Cond.native arraycopyName ∈ Ts) (w3 : Cond.static arraycopyName ∈ Ts) (w4 : Cond.initialized "java/lang/System" ∈ Ts) (hfr : 1 ≤ rm.frames) (hlo : (st.map fun v => v.category).sum + (nativeFrameWords "java/lang/System" "arraycopy" 5 + 11) ≤ rm.locals) (kk : PW f cells slots g (va_up I c2 (va_cpy (I c) (I c2) sp.toNatClampNeg dp.toNatClampNeg n.toNatClampNeg)) q lv st) : PW f cells slots g I pc lv (.int n :: .int dp :: .ref (gA g c2) :: .int sp :: .ref (gA g c) :: st) := by
  subst hq
  intro H locs ls hP hD hS hl
  obtain ⟨p0, hp⟩ := wd_at (f_x f) I hc
  rw [en_i (f_x f) I hk] at hp
  obtain ⟨p1, hp1⟩ := wd_at (f_x f) I hc2
  have hp0 := hp1
  rw [en_i (f_x f) I hk2] at hp1
  refine va_copyi hC.1.1 hC.1.2.1 (by rw [hC.1.2.2.1, ← hC.2.2.2.2.2]; exact hl.1.symm) hC.1.2.2.2.1 (hC.1.2.2.2.2 _ w1) (hC.1.2.2.2.2 _ w2) (hC.1.2.2.2.2 _ w3) (hC.1.2.2.2.2 _ w4) hC.2.1 hP hD hS p0 p1 0 0 hp hp1 rfl rfl rfl h1 h2 h3 h4 h5 (fun _ _ => rfl) (by rw [hC.2.2.2.2.1]; exact hfr) (by rw [hC.2.2.2.2.1]; exact hlo) hd (fun H1 locs1 hP1 hD1 hS1 => ?_)
  have he := wd_set (g' := g) (I' := va_up I c2 (va_cpy (I c) (I c2) sp.toNatClampNeg dp.toNatClampNeg n.toNatClampNeg)) hD hc2 hp0 rfl rfl (fun d hd => by
    have e : (va_up I c2 (va_cpy (I c) (I c2) sp.toNatClampNeg dp.toNatClampNeg n.toNatClampNeg)) d = I d := by simp [va_up, hd]
    have e2 : ∀ k, fld g (va_up I c2 (va_cpy (I c) (I c2) sp.toNatClampNeg dp.toNatClampNeg n.toNatClampNeg)) d k = fld g I d k := by intro k; funext z; simp only [fld, e]
    simp only [en, flds, e, e2]) (e := .inl ((f_x f).2.1, gL g c2, .inl (va_cpy (I c) (I c2) sp.toNatClampNeg dp.toNatClampNeg n.toNatClampNeg))) (by rw [en_i (f_x f) _ hk2]; simp [va_up])
  rw [he] at hP1 hD1
  exact kk H1 locs1 ls hP1 hD1 hS1 hl
end PWR
