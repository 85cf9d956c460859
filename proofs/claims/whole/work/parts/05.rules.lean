section Rules
variable {own : String} {cc : ByteArray} {nL : Nat} {ret : Option FieldType} {hh : List ExceptionTableEntry} {isI : gH} {d rc rs pc : Nat} {ls ls' : List (Nat × Value)} {st : List Value} {S : gS} {I : gI} {J : gJ} {Q : gO → gS → gI → gJ → Prop}
theorem wp_iadd {x y : Int32} (hd : decode cc pc = .ok (.iadd, 1))  (k : Wp own cc nL ret hh isI d rc rs (pc + 1) ls (.int (x + y) :: st) S I J Q) : Wp own cc nL ret hh isI d rc rs pc ls (.int y :: .int x :: st) S I J Q := fun p l e R s m args below meth c H locs cells slots A al cy D mc ms al0 n0 hC hi hD hv lsr hl => lv_iadd hC.1.1 hC.1.2.1 hd  (k p l e R s m args below meth c H locs cells slots A al cy D mc ms al0 n0 hC hi hD ⟨hv.1, trivial, hv.2.2.2⟩ lsr hl)
theorem wp_isub {x y : Int32} (hd : decode cc pc = .ok (.isub, 1))  (k : Wp own cc nL ret hh isI d rc rs (pc + 1) ls (.int (x - y) :: st) S I J Q) : Wp own cc nL ret hh isI d rc rs pc ls (.int y :: .int x :: st) S I J Q := fun p l e R s m args below meth c H locs cells slots A al cy D mc ms al0 n0 hC hi hD hv lsr hl => lv_isub hC.1.1 hC.1.2.1 hd  (k p l e R s m args below meth c H locs cells slots A al cy D mc ms al0 n0 hC hi hD ⟨hv.1, trivial, hv.2.2.2⟩ lsr hl)
theorem wp_imul {x y : Int32} (hd : decode cc pc = .ok (.imul, 1))  (k : Wp own cc nL ret hh isI d rc rs (pc + 1) ls (.int (x * y) :: st) S I J Q) : Wp own cc nL ret hh isI d rc rs pc ls (.int y :: .int x :: st) S I J Q := fun p l e R s m args below meth c H locs cells slots A al cy D mc ms al0 n0 hC hi hD hv lsr hl => lv_imul hC.1.1 hC.1.2.1 hd  (k p l e R s m args below meth c H locs cells slots A al cy D mc ms al0 n0 hC hi hD ⟨hv.1, trivial, hv.2.2.2⟩ lsr hl)
theorem wp_iand {x y : Int32} (hd : decode cc pc = .ok (.iand, 1))  (k : Wp own cc nL ret hh isI d rc rs (pc + 1) ls (.int (x &&& y) :: st) S I J Q) : Wp own cc nL ret hh isI d rc rs pc ls (.int y :: .int x :: st) S I J Q := fun p l e R s m args below meth c H locs cells slots A al cy D mc ms al0 n0 hC hi hD hv lsr hl => lv_iand hC.1.1 hC.1.2.1 hd  (k p l e R s m args below meth c H locs cells slots A al cy D mc ms al0 n0 hC hi hD ⟨hv.1, trivial, hv.2.2.2⟩ lsr hl)
theorem wp_ior {x y : Int32} (hd : decode cc pc = .ok (.ior, 1))  (k : Wp own cc nL ret hh isI d rc rs (pc + 1) ls (.int (x ||| y) :: st) S I J Q) : Wp own cc nL ret hh isI d rc rs pc ls (.int y :: .int x :: st) S I J Q := fun p l e R s m args below meth c H locs cells slots A al cy D mc ms al0 n0 hC hi hD hv lsr hl => lv_ior hC.1.1 hC.1.2.1 hd  (k p l e R s m args below meth c H locs cells slots A al cy D mc ms al0 n0 hC hi hD ⟨hv.1, trivial, hv.2.2.2⟩ lsr hl)
theorem wp_ixor {x y : Int32} (hd : decode cc pc = .ok (.ixor, 1))  (k : Wp own cc nL ret hh isI d rc rs (pc + 1) ls (.int (x ^^^ y) :: st) S I J Q) : Wp own cc nL ret hh isI d rc rs pc ls (.int y :: .int x :: st) S I J Q := fun p l e R s m args below meth c H locs cells slots A al cy D mc ms al0 n0 hC hi hD hv lsr hl => lv_ixor hC.1.1 hC.1.2.1 hd  (k p l e R s m args below meth c H locs cells slots A al cy D mc ms al0 n0 hC hi hD ⟨hv.1, trivial, hv.2.2.2⟩ lsr hl)
theorem wp_ishl {x y : Int32} (hd : decode cc pc = .ok (.ishl, 1))  (k : Wp own cc nL ret hh isI d rc rs (pc + 1) ls (.int (x <<< (y &&& 31)) :: st) S I J Q) : Wp own cc nL ret hh isI d rc rs pc ls (.int y :: .int x :: st) S I J Q := fun p l e R s m args below meth c H locs cells slots A al cy D mc ms al0 n0 hC hi hD hv lsr hl => lv_ishl hC.1.1 hC.1.2.1 hd  (k p l e R s m args below meth c H locs cells slots A al cy D mc ms al0 n0 hC hi hD ⟨hv.1, trivial, hv.2.2.2⟩ lsr hl)
theorem wp_ishr {x y : Int32} (hd : decode cc pc = .ok (.ishr, 1))  (k : Wp own cc nL ret hh isI d rc rs (pc + 1) ls (.int (x >>> (y &&& 31)) :: st) S I J Q) : Wp own cc nL ret hh isI d rc rs pc ls (.int y :: .int x :: st) S I J Q := fun p l e R s m args below meth c H locs cells slots A al cy D mc ms al0 n0 hC hi hD hv lsr hl => lv_ishr hC.1.1 hC.1.2.1 hd  (k p l e R s m args below meth c H locs cells slots A al cy D mc ms al0 n0 hC hi hD ⟨hv.1, trivial, hv.2.2.2⟩ lsr hl)
def ushr (x y : Int32) : Int32 := (x.toUInt32 >>> (y.toUInt32 &&& Int32.toUInt32 31)).toInt32
theorem wp_iushr {x y : Int32} (hd : decode cc pc = .ok (.iushr, 1))  (k : Wp own cc nL ret hh isI d rc rs (pc + 1) ls (.int (ushr x y) :: st) S I J Q) : Wp own cc nL ret hh isI d rc rs pc ls (.int y :: .int x :: st) S I J Q := fun p l e R s m args below meth c H locs cells slots A al cy D mc ms al0 n0 hC hi hD hv lsr hl => lv_iushr hC.1.1 hC.1.2.1 hd rfl (k p l e R s m args below meth c H locs cells slots A al cy D mc ms al0 n0 hC hi hD ⟨hv.1, trivial, hv.2.2.2⟩ lsr hl)
theorem wp_ineg {x : Int32} (hd : decode cc pc = .ok (.ineg, 1))  (k : Wp own cc nL ret hh isI d rc rs (pc + 1) ls (.int (-x) :: st) S I J Q) : Wp own cc nL ret hh isI d rc rs pc ls (.int x :: st) S I J Q := fun p l e R s m args below meth c H locs cells slots A al cy D mc ms al0 n0 hC hi hD hv lsr hl => lv_ineg hC.1.1 hC.1.2.1 hd  (k p l e R s m args below meth c H locs cells slots A al cy D mc ms al0 n0 hC hi hD ⟨hv.1, trivial, hv.2.2⟩ lsr hl)
theorem wp_irem {x y : Int32} (hd : decode cc pc = .ok (.irem, 1)) (hne : ¬ y = 0) (k : Wp own cc nL ret hh isI d rc rs (pc + 1) ls (.int (x - x / y * y) :: st) S I J Q) : Wp own cc nL ret hh isI d rc rs pc ls (.int y :: .int x :: st) S I J Q := fun p l e R s m args below meth c H locs cells slots A al cy D mc ms al0 n0 hC hi hD hv lsr hl => lv_irem hC.1.1 hC.1.2.1 hd hne (k p l e R s m args below meth c H locs cells slots A al cy D mc ms al0 n0 hC hi hD ⟨hv.1, trivial, hv.2.2.2⟩ lsr hl)
theorem wp_idiv {x y : Int32} (hd : decode cc pc = .ok (.idiv, 1)) (hne : ¬ y = 0) (k : Wp own cc nL ret hh isI d rc rs (pc + 1) ls (.int (x / y) :: st) S I J Q) : Wp own cc nL ret hh isI d rc rs pc ls (.int y :: .int x :: st) S I J Q := fun p l e R s m args below meth c H locs cells slots A al cy D mc ms al0 n0 hC hi hD hv lsr hl => lv_idiv hC.1.1 hC.1.2.1 hd hne (k p l e R s m args below meth c H locs cells slots A al cy D mc ms al0 n0 hC hi hD ⟨hv.1, trivial, hv.2.2.2⟩ lsr hl)
theorem wp_i2l {x : Int32} (hd : decode cc pc = .ok (.i2l, 1))  (k : Wp own cc nL ret hh isI d rc rs (pc + 1) ls (.long x.toInt64 :: st) S I J Q) : Wp own cc nL ret hh isI d rc rs pc ls (.int x :: st) S I J Q := fun p l e R s m args below meth c H locs cells slots A al cy D mc ms al0 n0 hC hi hD hv lsr hl => lv_i2l hC.1.1 hC.1.2.1 hd rfl (k p l e R s m args below meth c H locs cells slots A al cy D mc ms al0 n0 hC hi hD ⟨hv.1, trivial, hv.2.2⟩ lsr hl)
theorem wp_i2b {x : Int32} (hd : decode cc pc = .ok (.i2b, 1))  (k : Wp own cc nL ret hh isI d rc rs (pc + 1) ls (.int x.toInt8.toInt32 :: st) S I J Q) : Wp own cc nL ret hh isI d rc rs pc ls (.int x :: st) S I J Q := fun p l e R s m args below meth c H locs cells slots A al cy D mc ms al0 n0 hC hi hD hv lsr hl => lv_i2b hC.1.1 hC.1.2.1 hd rfl (k p l e R s m args below meth c H locs cells slots A al cy D mc ms al0 n0 hC hi hD ⟨hv.1, trivial, hv.2.2⟩ lsr hl)
theorem wp_lshl {x : Int64} {y : Int32} (hd : decode cc pc = .ok (.lshl, 1))  (k : Wp own cc nL ret hh isI d rc rs (pc + 1) ls (.long (x <<< (y.toInt64 &&& 63)) :: st) S I J Q) : Wp own cc nL ret hh isI d rc rs pc ls (.int y :: .long x :: st) S I J Q := fun p l e R s m args below meth c H locs cells slots A al cy D mc ms al0 n0 hC hi hD hv lsr hl => lv_lshl hC.1.1 hC.1.2.1 hd rfl (k p l e R s m args below meth c H locs cells slots A al cy D mc ms al0 n0 hC hi hD ⟨hv.1, trivial, hv.2.2.2⟩ lsr hl)
theorem wp_lor {x y : Int64} (hd : decode cc pc = .ok (.lor, 1))  (k : Wp own cc nL ret hh isI d rc rs (pc + 1) ls (.long (x ||| y) :: st) S I J Q) : Wp own cc nL ret hh isI d rc rs pc ls (.long y :: .long x :: st) S I J Q := fun p l e R s m args below meth c H locs cells slots A al cy D mc ms al0 n0 hC hi hD hv lsr hl => lv_lor hC.1.1 hC.1.2.1 hd  (k p l e R s m args below meth c H locs cells slots A al cy D mc ms al0 n0 hC hi hD ⟨hv.1, trivial, hv.2.2.2⟩ lsr hl)
theorem wp_lsub {x y : Int64} (hd : decode cc pc = .ok (.lsub, 1))  (k : Wp own cc nL ret hh isI d rc rs (pc + 1) ls (.long (x - y) :: st) S I J Q) : Wp own cc nL ret hh isI d rc rs pc ls (.long y :: .long x :: st) S I J Q := fun p l e R s m args below meth c H locs cells slots A al cy D mc ms al0 n0 hC hi hD hv lsr hl => lv_lsub hC.1.1 hC.1.2.1 hd  (k p l e R s m args below meth c H locs cells slots A al cy D mc ms al0 n0 hC hi hD ⟨hv.1, trivial, hv.2.2.2⟩ lsr hl)
theorem wp_lcmp {x y : Int64} (hd : decode cc pc = .ok (.lcmp, 1))  (k : Wp own cc nL ret hh isI d rc rs (pc + 1) ls (.int (lg_cmp x y) :: st) S I J Q) : Wp own cc nL ret hh isI d rc rs pc ls (.long y :: .long x :: st) S I J Q := fun p l e R s m args below meth c H locs cells slots A al cy D mc ms al0 n0 hC hi hD hv lsr hl => W.lcmp hC.1.1 hC.1.2.1 hd  (k p l e R s m args below meth c H locs cells slots A al cy D mc ms al0 n0 hC hi hD ⟨hv.1, trivial, hv.2.2.2⟩ lsr hl)
theorem wp_dup {v : Value} (hd : decode cc pc = .ok (.dup, 1)) (h1 : v.category = 1) (k : Wp own cc nL ret hh isI d rc rs (pc + 1) ls (v :: v :: st) S I J Q) : Wp own cc nL ret hh isI d rc rs pc ls (v :: st) S I J Q := fun p l e R s m args below meth c H locs cells slots A al cy D mc ms al0 n0 hC hi hD hv lsr hl => lv_dup hC.1.1 hC.1.2.1 hd ((tv_cat al v).trans h1) (k p l e R s m args below meth c H locs cells slots A al cy D mc ms al0 n0 hC hi hD ⟨hv.1, hv.2.1, hv.2⟩ lsr hl)
theorem wp_dup2 {v w : Value} (hd : decode cc pc = .ok (.dup2, 1)) (h1 : v.category = 1) (h2 : w.category = 1) (k : Wp own cc nL ret hh isI d rc rs (pc + 1) ls (v :: w :: v :: w :: st) S I J Q) : Wp own cc nL ret hh isI d rc rs pc ls (v :: w :: st) S I J Q := fun p l e R s m args below meth c H locs cells slots A al cy D mc ms al0 n0 hC hi hD hv lsr hl => lv_dup2_11 hC.1.1 hC.1.2.1 hd ((tv_cat al v).trans h1) ((tv_cat al w).trans h2) (k p l e R s m args below meth c H locs cells slots A al cy D mc ms al0 n0 hC hi hD ⟨hv.1, hv.2.1, hv.2.2.1, hv.2⟩ lsr hl)
theorem wp_pop {v : Value} (hd : decode cc pc = .ok (.pop, 1)) (h1 : v.category = 1) (k : Wp own cc nL ret hh isI d rc rs (pc + 1) ls st S I J Q) : Wp own cc nL ret hh isI d rc rs pc ls (v :: st) S I J Q := fun p l e R s m args below meth c H locs cells slots A al cy D mc ms al0 n0 hC hi hD hv lsr hl => lv_pop hC.1.1 hC.1.2.1 hd ((tv_cat al v).trans h1) (k p l e R s m args below meth c H locs cells slots A al cy D mc ms al0 n0 hC hi hD ⟨hv.1, hv.2.2⟩ lsr hl)
theorem wp_iconst {n : Int} {v : Int32} (hd : decode cc pc = .ok (.iconst n, 1)) (h1 : Int32.ofInt n = v) (k : Wp own cc nL ret hh isI d rc rs (pc + 1) ls (.int v :: st) S I J Q) : Wp own cc nL ret hh isI d rc rs pc ls st S I J Q := fun p l e R s m args below meth c H locs cells slots A al cy D mc ms al0 n0 hC hi hD hv lsr hl => lv_iconst hC.1.1 hC.1.2.1 hd h1 (k p l e R s m args below meth c H locs cells slots A al cy D mc ms al0 n0 hC hi hD ⟨hv.1, trivial, hv.2⟩ lsr hl)
theorem wp_bipush {n : Int} {v : Int32} (hd : decode cc pc = .ok (.bipush n, 2)) (h1 : (Int8.ofInt n).toInt32 = v) (k : Wp own cc nL ret hh isI d rc rs (pc + 2) ls (.int v :: st) S I J Q) : Wp own cc nL ret hh isI d rc rs pc ls st S I J Q := fun p l e R s m args below meth c H locs cells slots A al cy D mc ms al0 n0 hC hi hD hv lsr hl => lv_bipush hC.1.1 hC.1.2.1 hd h1 (k p l e R s m args below meth c H locs cells slots A al cy D mc ms al0 n0 hC hi hD ⟨hv.1, trivial, hv.2⟩ lsr hl)
theorem wp_sipush {n : Int} {v : Int32} (hd : decode cc pc = .ok (.sipush n, 3)) (h1 : (Int16.ofInt n).toInt32 = v) (k : Wp own cc nL ret hh isI d rc rs (pc + 3) ls (.int v :: st) S I J Q) : Wp own cc nL ret hh isI d rc rs pc ls st S I J Q := fun p l e R s m args below meth c H locs cells slots A al cy D mc ms al0 n0 hC hi hD hv lsr hl => lv_sipush hC.1.1 hC.1.2.1 hd h1 (k p l e R s m args below meth c H locs cells slots A al cy D mc ms al0 n0 hC hi hD ⟨hv.1, trivial, hv.2⟩ lsr hl)
theorem wp_lconst {n : Fin 2} {v : Int64} (hd : decode cc pc = .ok (.lconst n, 1)) (h1 : Int64.ofNat (n : Nat) = v) (k : Wp own cc nL ret hh isI d rc rs (pc + 1) ls (.long v :: st) S I J Q) : Wp own cc nL ret hh isI d rc rs pc ls st S I J Q := fun p l e R s m args below meth c H locs cells slots A al cy D mc ms al0 n0 hC hi hD hv lsr hl => lv_lconst hC.1.1 hC.1.2.1 hd h1 (k p l e R s m args below meth c H locs cells slots A al cy D mc ms al0 n0 hC hi hD ⟨hv.1, trivial, hv.2⟩ lsr hl)
theorem wp_iload_n {k9 : Fin 4} {i : Nat} {x : Int32} (hd : decode cc pc = .ok (.iload_n k9, 1)) (hj : (k9 : Nat) = i) (h1 : lk ls i = some (.int x)) (k : Wp own cc nL ret hh isI d rc rs (pc + 1) ls (.int x :: st) S I J Q) : Wp own cc nL ret hh isI d rc rs pc ls st S I J Q := fun p l e R s m args below meth c H locs cells slots A al cy D mc ms al0 n0 hC hi hD hv lsr hl => lv_iload_n hC.1.1 hC.1.2.1 hd hj (lk_has hl h1) (k p l e R s m args below meth c H locs cells slots A al cy D mc ms al0 n0 hC hi hD ⟨hv.1, vok_lk hv.1 h1, hv.2⟩ lsr hl)
theorem wp_iload {i : Nat} {x : Int32} (hd : decode cc pc = .ok (.iload i, 2)) (h1 : lk ls i = some (.int x)) (k : Wp own cc nL ret hh isI d rc rs (pc + 2) ls (.int x :: st) S I J Q) : Wp own cc nL ret hh isI d rc rs pc ls st S I J Q := fun p l e R s m args below meth c H locs cells slots A al cy D mc ms al0 n0 hC hi hD hv lsr hl => lv_iload hC.1.1 hC.1.2.1 hd (lk_has hl h1) (k p l e R s m args below meth c H locs cells slots A al cy D mc ms al0 n0 hC hi hD ⟨hv.1, vok_lk hv.1 h1, hv.2⟩ lsr hl)
theorem wp_istore_n {k9 : Fin 4} {i : Nat} {x : Int32} (hd : decode cc pc = .ok (.istore_n k9, 1)) (hj : (k9 : Nat) = i) (hn : i < nL) (he : ls1 ls i (.int x) = ls') (k : Wp own cc nL ret hh isI d rc rs (pc + 1) ls' st S I J Q) : Wp own cc nL ret hh isI d rc rs pc ls (.int x :: st) S I J Q := fun p l e R s m args below meth c H locs cells slots A al cy D mc ms al0 n0 hC hi hD hv lsr hl => lv_istore_n hC.1.1 hC.1.2.1 hd hj hl hn (ls1_map al ls i (.int x)) (fun lsr hl => k p l e R s m args below meth c H locs cells slots A al cy D mc ms al0 n0 hC hi hD ⟨he ▸ vokP_ls1 hv.1 hv.2.1, hv.2.2⟩ lsr (he ▸ hl))
theorem wp_istore {i : Nat} {x : Int32} (hd : decode cc pc = .ok (.istore i, 2))  (hn : i < nL) (he : ls1 ls i (.int x) = ls') (k : Wp own cc nL ret hh isI d rc rs (pc + 2) ls' st S I J Q) : Wp own cc nL ret hh isI d rc rs pc ls (.int x :: st) S I J Q := fun p l e R s m args below meth c H locs cells slots A al cy D mc ms al0 n0 hC hi hD hv lsr hl => lv_istore hC.1.1 hC.1.2.1 hd hl hn (ls1_map al ls i (.int x)) (fun lsr hl => k p l e R s m args below meth c H locs cells slots A al cy D mc ms al0 n0 hC hi hD ⟨he ▸ vokP_ls1 hv.1 hv.2.1, hv.2.2⟩ lsr (he ▸ hl))
theorem wp_lload_n {k9 : Fin 4} {i : Nat} {x : Int64} (hd : decode cc pc = .ok (.lload_n k9, 1)) (hj : (k9 : Nat) = i) (h1 : lk ls i = some (.long x)) (k : Wp own cc nL ret hh isI d rc rs (pc + 1) ls (.long x :: st) S I J Q) : Wp own cc nL ret hh isI d rc rs pc ls st S I J Q := fun p l e R s m args below meth c H locs cells slots A al cy D mc ms al0 n0 hC hi hD hv lsr hl => lv_lload_n hC.1.1 hC.1.2.1 hd hj (lk_has hl h1) (k p l e R s m args below meth c H locs cells slots A al cy D mc ms al0 n0 hC hi hD ⟨hv.1, vok_lk hv.1 h1, hv.2⟩ lsr hl)
theorem wp_lload {i : Nat} {x : Int64} (hd : decode cc pc = .ok (.lload i, 2)) (h1 : lk ls i = some (.long x)) (k : Wp own cc nL ret hh isI d rc rs (pc + 2) ls (.long x :: st) S I J Q) : Wp own cc nL ret hh isI d rc rs pc ls st S I J Q := fun p l e R s m args below meth c H locs cells slots A al cy D mc ms al0 n0 hC hi hD hv lsr hl => lv_lload hC.1.1 hC.1.2.1 hd (lk_has hl h1) (k p l e R s m args below meth c H locs cells slots A al cy D mc ms al0 n0 hC hi hD ⟨hv.1, vok_lk hv.1 h1, hv.2⟩ lsr hl)
theorem wp_lstore_n {k9 : Fin 4} {i : Nat} {x : Int64} (hd : decode cc pc = .ok (.lstore_n k9, 1)) (hj : (k9 : Nat) = i) (hn : i + 1 < nL) (he : ls2 ls i (.long x) = ls') (k : Wp own cc nL ret hh isI d rc rs (pc + 1) ls' st S I J Q) : Wp own cc nL ret hh isI d rc rs pc ls (.long x :: st) S I J Q := fun p l e R s m args below meth c H locs cells slots A al cy D mc ms al0 n0 hC hi hD hv lsr hl => lv_lstore_n hC.1.1 hC.1.2.1 hd hj hl hn (ls2_map al ls i (.long x)) (fun lsr hl => k p l e R s m args below meth c H locs cells slots A al cy D mc ms al0 n0 hC hi hD ⟨he ▸ vokP_ls2 hv.1 hv.2.1, hv.2.2⟩ lsr (he ▸ hl))
theorem wp_lstore {i : Nat} {x : Int64} (hd : decode cc pc = .ok (.lstore i, 2))  (hn : i + 1 < nL) (he : ls2 ls i (.long x) = ls') (k : Wp own cc nL ret hh isI d rc rs (pc + 2) ls' st S I J Q) : Wp own cc nL ret hh isI d rc rs pc ls (.long x :: st) S I J Q := fun p l e R s m args below meth c H locs cells slots A al cy D mc ms al0 n0 hC hi hD hv lsr hl => lv_lstore hC.1.1 hC.1.2.1 hd hl hn (ls2_map al ls i (.long x)) (fun lsr hl => k p l e R s m args below meth c H locs cells slots A al cy D mc ms al0 n0 hC hi hD ⟨he ▸ vokP_ls2 hv.1 hv.2.1, hv.2.2⟩ lsr (he ▸ hl))
theorem wp_aload_n {k9 : Fin 4} {i : Nat} {x : Nat} (hd : decode cc pc = .ok (.aload_n k9, 1)) (hj : (k9 : Nat) = i) (h1 : lk ls i = some (.ref x)) (k : Wp own cc nL ret hh isI d rc rs (pc + 1) ls (.ref x :: st) S I J Q) : Wp own cc nL ret hh isI d rc rs pc ls st S I J Q := fun p l e R s m args below meth c H locs cells slots A al cy D mc ms al0 n0 hC hi hD hv lsr hl => lv_aload_n hC.1.1 hC.1.2.1 hd hj (lk_has hl h1) (k p l e R s m args below meth c H locs cells slots A al cy D mc ms al0 n0 hC hi hD ⟨hv.1, vok_lk hv.1 h1, hv.2⟩ lsr hl)
theorem wp_aload {i : Nat} {x : Nat} (hd : decode cc pc = .ok (.aload i, 2)) (h1 : lk ls i = some (.ref x)) (k : Wp own cc nL ret hh isI d rc rs (pc + 2) ls (.ref x :: st) S I J Q) : Wp own cc nL ret hh isI d rc rs pc ls st S I J Q := fun p l e R s m args below meth c H locs cells slots A al cy D mc ms al0 n0 hC hi hD hv lsr hl => lv_aload hC.1.1 hC.1.2.1 hd (lk_has hl h1) (k p l e R s m args below meth c H locs cells slots A al cy D mc ms al0 n0 hC hi hD ⟨hv.1, vok_lk hv.1 h1, hv.2⟩ lsr hl)
theorem wp_astore_n {k9 : Fin 4} {i : Nat} {x : Nat} (hd : decode cc pc = .ok (.astore_n k9, 1)) (hj : (k9 : Nat) = i) (hn : i < nL) (he : ls1 ls i (.ref x) = ls') (k : Wp own cc nL ret hh isI d rc rs (pc + 1) ls' st S I J Q) : Wp own cc nL ret hh isI d rc rs pc ls (.ref x :: st) S I J Q := fun p l e R s m args below meth c H locs cells slots A al cy D mc ms al0 n0 hC hi hD hv lsr hl => lv_astore_n hC.1.1 hC.1.2.1 hd hj hl hn (ls1_map al ls i (.ref x)) (fun lsr hl => k p l e R s m args below meth c H locs cells slots A al cy D mc ms al0 n0 hC hi hD ⟨he ▸ vokP_ls1 hv.1 hv.2.1, hv.2.2⟩ lsr (he ▸ hl))
theorem wp_astore {i : Nat} {x : Nat} (hd : decode cc pc = .ok (.astore i, 2))  (hn : i < nL) (he : ls1 ls i (.ref x) = ls') (k : Wp own cc nL ret hh isI d rc rs (pc + 2) ls' st S I J Q) : Wp own cc nL ret hh isI d rc rs pc ls (.ref x :: st) S I J Q := fun p l e R s m args below meth c H locs cells slots A al cy D mc ms al0 n0 hC hi hD hv lsr hl => lv_astore hC.1.1 hC.1.2.1 hd hl hn (ls1_map al ls i (.ref x)) (fun lsr hl => k p l e R s m args below meth c H locs cells slots A al cy D mc ms al0 n0 hC hi hD ⟨he ▸ vokP_ls1 hv.1 hv.2.1, hv.2.2⟩ lsr (he ▸ hl))
theorem lk_get : ∀ {ls : List (Nat × Value)} {i : Nat} {v : Value}, lk ls i = some v → ∃ k : Nat, ls[k]? = some (i, v)
  | ls, i, v, h => by
    obtain ⟨k, hk⟩ := List.getElem?_of_mem (lk_mem h)
    exact ⟨k, hk⟩
theorem wp_iinc {i : Nat} {n : Int} {x v : Int32} (hd : decode cc pc = .ok (.iinc i n, 3)) (h1 : lk ls i = some (.int x)) (hx : Int32.ofInt n = v) (hn : i < nL) (he : ls1 ls i (.int (x + v)) = ls') (k : Wp own cc nL ret hh isI d rc rs (pc + 3) ls' st S I J Q) : Wp own cc nL ret hh isI d rc rs pc ls st S I J Q := fun p l e R s m args below meth c H locs cells slots A al cy D mc ms al0 n0 hC hi hD hv lsr hl => by
  obtain ⟨k0, hk⟩ := lk_get h1
  exact lv_iinc hC.1.1 hC.1.2.1 hd hl (k := k0) (by rw [List.getElem?_map, hk]; rfl) (by rw [hx]) hn (ls1_map al ls i (.int (x + v))) (fun lsr hl => k p l e R s m args below meth c H locs cells slots A al cy D mc ms al0 n0 hC hi hD ⟨he ▸ vokP_ls1 hv.1 (v := .int (x + v)) trivial, hv.2⟩ lsr (he ▸ hl))
theorem wp_if_eq {x : Int32} {off : Int} {tgt : Nat} (hd : decode cc pc = .ok (.ifCond .eq off, 3)) (ht : (pc : Int) + off = (tgt : Int)) (kt : x = 0 → Wp own cc nL ret hh isI d rc rs tgt ls st S I J Q) (kf : ¬ x = 0 → Wp own cc nL ret hh isI d rc rs (pc + 3) ls st S I J Q) : Wp own cc nL ret hh isI d rc rs pc ls (.int x :: st) S I J Q := fun p l e R s m args below meth c H locs cells slots A al cy D mc ms al0 n0 hC hi hD hv lsr hl => lv_if_eq hC.1.1 hC.1.2.1 hd ht (fun h => kt h p l e R s m args below meth c H locs cells slots A al cy D mc ms al0 n0 hC hi hD ⟨hv.1, hv.2.2⟩ lsr hl) (fun h => kf h p l e R s m args below meth c H locs cells slots A al cy D mc ms al0 n0 hC hi hD ⟨hv.1, hv.2.2⟩ lsr hl)
theorem wp_icmp_eq {x y : Int32} {off : Int} {tgt : Nat} (hd : decode cc pc = .ok (.if_icmp .eq off, 3)) (ht : (pc : Int) + off = (tgt : Int)) (kt : x = y → Wp own cc nL ret hh isI d rc rs tgt ls st S I J Q) (kf : ¬ x = y → Wp own cc nL ret hh isI d rc rs (pc + 3) ls st S I J Q) : Wp own cc nL ret hh isI d rc rs pc ls (.int y :: .int x :: st) S I J Q := fun p l e R s m args below meth c H locs cells slots A al cy D mc ms al0 n0 hC hi hD hv lsr hl => lv_icmp_eq hC.1.1 hC.1.2.1 hd ht (fun h => kt h p l e R s m args below meth c H locs cells slots A al cy D mc ms al0 n0 hC hi hD ⟨hv.1, hv.2.2.2⟩ lsr hl) (fun h => kf h p l e R s m args below meth c H locs cells slots A al cy D mc ms al0 n0 hC hi hD ⟨hv.1, hv.2.2.2⟩ lsr hl)
theorem wp_if_ne {x : Int32} {off : Int} {tgt : Nat} (hd : decode cc pc = .ok (.ifCond .ne off, 3)) (ht : (pc : Int) + off = (tgt : Int)) (kt : ¬ x = 0 → Wp own cc nL ret hh isI d rc rs tgt ls st S I J Q) (kf : x = 0 → Wp own cc nL ret hh isI d rc rs (pc + 3) ls st S I J Q) : Wp own cc nL ret hh isI d rc rs pc ls (.int x :: st) S I J Q := fun p l e R s m args below meth c H locs cells slots A al cy D mc ms al0 n0 hC hi hD hv lsr hl => lv_if_ne hC.1.1 hC.1.2.1 hd ht (fun h => kt h p l e R s m args below meth c H locs cells slots A al cy D mc ms al0 n0 hC hi hD ⟨hv.1, hv.2.2⟩ lsr hl) (fun h => kf h p l e R s m args below meth c H locs cells slots A al cy D mc ms al0 n0 hC hi hD ⟨hv.1, hv.2.2⟩ lsr hl)
theorem wp_icmp_ne {x y : Int32} {off : Int} {tgt : Nat} (hd : decode cc pc = .ok (.if_icmp .ne off, 3)) (ht : (pc : Int) + off = (tgt : Int)) (kt : ¬ x = y → Wp own cc nL ret hh isI d rc rs tgt ls st S I J Q) (kf : x = y → Wp own cc nL ret hh isI d rc rs (pc + 3) ls st S I J Q) : Wp own cc nL ret hh isI d rc rs pc ls (.int y :: .int x :: st) S I J Q := fun p l e R s m args below meth c H locs cells slots A al cy D mc ms al0 n0 hC hi hD hv lsr hl => lv_icmp_ne hC.1.1 hC.1.2.1 hd ht (fun h => kt h p l e R s m args below meth c H locs cells slots A al cy D mc ms al0 n0 hC hi hD ⟨hv.1, hv.2.2.2⟩ lsr hl) (fun h => kf h p l e R s m args below meth c H locs cells slots A al cy D mc ms al0 n0 hC hi hD ⟨hv.1, hv.2.2.2⟩ lsr hl)
theorem wp_if_lt {x : Int32} {off : Int} {tgt : Nat} (hd : decode cc pc = .ok (.ifCond .lt off, 3)) (ht : (pc : Int) + off = (tgt : Int)) (kt : x < 0 → Wp own cc nL ret hh isI d rc rs tgt ls st S I J Q) (kf : ¬ x < 0 → Wp own cc nL ret hh isI d rc rs (pc + 3) ls st S I J Q) : Wp own cc nL ret hh isI d rc rs pc ls (.int x :: st) S I J Q := fun p l e R s m args below meth c H locs cells slots A al cy D mc ms al0 n0 hC hi hD hv lsr hl => lv_if_lt hC.1.1 hC.1.2.1 hd ht (fun h => kt h p l e R s m args below meth c H locs cells slots A al cy D mc ms al0 n0 hC hi hD ⟨hv.1, hv.2.2⟩ lsr hl) (fun h => kf h p l e R s m args below meth c H locs cells slots A al cy D mc ms al0 n0 hC hi hD ⟨hv.1, hv.2.2⟩ lsr hl)
theorem wp_icmp_lt {x y : Int32} {off : Int} {tgt : Nat} (hd : decode cc pc = .ok (.if_icmp .lt off, 3)) (ht : (pc : Int) + off = (tgt : Int)) (kt : x < y → Wp own cc nL ret hh isI d rc rs tgt ls st S I J Q) (kf : ¬ x < y → Wp own cc nL ret hh isI d rc rs (pc + 3) ls st S I J Q) : Wp own cc nL ret hh isI d rc rs pc ls (.int y :: .int x :: st) S I J Q := fun p l e R s m args below meth c H locs cells slots A al cy D mc ms al0 n0 hC hi hD hv lsr hl => lv_icmp_lt hC.1.1 hC.1.2.1 hd ht (fun h => kt h p l e R s m args below meth c H locs cells slots A al cy D mc ms al0 n0 hC hi hD ⟨hv.1, hv.2.2.2⟩ lsr hl) (fun h => kf h p l e R s m args below meth c H locs cells slots A al cy D mc ms al0 n0 hC hi hD ⟨hv.1, hv.2.2.2⟩ lsr hl)
theorem wp_if_ge {x : Int32} {off : Int} {tgt : Nat} (hd : decode cc pc = .ok (.ifCond .ge off, 3)) (ht : (pc : Int) + off = (tgt : Int)) (kt : 0 ≤ x → Wp own cc nL ret hh isI d rc rs tgt ls st S I J Q) (kf : ¬ 0 ≤ x → Wp own cc nL ret hh isI d rc rs (pc + 3) ls st S I J Q) : Wp own cc nL ret hh isI d rc rs pc ls (.int x :: st) S I J Q := fun p l e R s m args below meth c H locs cells slots A al cy D mc ms al0 n0 hC hi hD hv lsr hl => lv_if_ge hC.1.1 hC.1.2.1 hd ht (fun h => kt h p l e R s m args below meth c H locs cells slots A al cy D mc ms al0 n0 hC hi hD ⟨hv.1, hv.2.2⟩ lsr hl) (fun h => kf h p l e R s m args below meth c H locs cells slots A al cy D mc ms al0 n0 hC hi hD ⟨hv.1, hv.2.2⟩ lsr hl)
theorem wp_icmp_ge {x y : Int32} {off : Int} {tgt : Nat} (hd : decode cc pc = .ok (.if_icmp .ge off, 3)) (ht : (pc : Int) + off = (tgt : Int)) (kt : y ≤ x → Wp own cc nL ret hh isI d rc rs tgt ls st S I J Q) (kf : ¬ y ≤ x → Wp own cc nL ret hh isI d rc rs (pc + 3) ls st S I J Q) : Wp own cc nL ret hh isI d rc rs pc ls (.int y :: .int x :: st) S I J Q := fun p l e R s m args below meth c H locs cells slots A al cy D mc ms al0 n0 hC hi hD hv lsr hl => lv_icmp_ge hC.1.1 hC.1.2.1 hd ht (fun h => kt h p l e R s m args below meth c H locs cells slots A al cy D mc ms al0 n0 hC hi hD ⟨hv.1, hv.2.2.2⟩ lsr hl) (fun h => kf h p l e R s m args below meth c H locs cells slots A al cy D mc ms al0 n0 hC hi hD ⟨hv.1, hv.2.2.2⟩ lsr hl)
theorem wp_if_gt {x : Int32} {off : Int} {tgt : Nat} (hd : decode cc pc = .ok (.ifCond .gt off, 3)) (ht : (pc : Int) + off = (tgt : Int)) (kt : 0 < x → Wp own cc nL ret hh isI d rc rs tgt ls st S I J Q) (kf : ¬ 0 < x → Wp own cc nL ret hh isI d rc rs (pc + 3) ls st S I J Q) : Wp own cc nL ret hh isI d rc rs pc ls (.int x :: st) S I J Q := fun p l e R s m args below meth c H locs cells slots A al cy D mc ms al0 n0 hC hi hD hv lsr hl => lv_if_gt hC.1.1 hC.1.2.1 hd ht (fun h => kt h p l e R s m args below meth c H locs cells slots A al cy D mc ms al0 n0 hC hi hD ⟨hv.1, hv.2.2⟩ lsr hl) (fun h => kf h p l e R s m args below meth c H locs cells slots A al cy D mc ms al0 n0 hC hi hD ⟨hv.1, hv.2.2⟩ lsr hl)
theorem wp_icmp_gt {x y : Int32} {off : Int} {tgt : Nat} (hd : decode cc pc = .ok (.if_icmp .gt off, 3)) (ht : (pc : Int) + off = (tgt : Int)) (kt : y < x → Wp own cc nL ret hh isI d rc rs tgt ls st S I J Q) (kf : ¬ y < x → Wp own cc nL ret hh isI d rc rs (pc + 3) ls st S I J Q) : Wp own cc nL ret hh isI d rc rs pc ls (.int y :: .int x :: st) S I J Q := fun p l e R s m args below meth c H locs cells slots A al cy D mc ms al0 n0 hC hi hD hv lsr hl => lv_icmp_gt hC.1.1 hC.1.2.1 hd ht (fun h => kt h p l e R s m args below meth c H locs cells slots A al cy D mc ms al0 n0 hC hi hD ⟨hv.1, hv.2.2.2⟩ lsr hl) (fun h => kf h p l e R s m args below meth c H locs cells slots A al cy D mc ms al0 n0 hC hi hD ⟨hv.1, hv.2.2.2⟩ lsr hl)
theorem wp_if_le {x : Int32} {off : Int} {tgt : Nat} (hd : decode cc pc = .ok (.ifCond .le off, 3)) (ht : (pc : Int) + off = (tgt : Int)) (kt : x ≤ 0 → Wp own cc nL ret hh isI d rc rs tgt ls st S I J Q) (kf : ¬ x ≤ 0 → Wp own cc nL ret hh isI d rc rs (pc + 3) ls st S I J Q) : Wp own cc nL ret hh isI d rc rs pc ls (.int x :: st) S I J Q := fun p l e R s m args below meth c H locs cells slots A al cy D mc ms al0 n0 hC hi hD hv lsr hl => lv_if_le hC.1.1 hC.1.2.1 hd ht (fun h => kt h p l e R s m args below meth c H locs cells slots A al cy D mc ms al0 n0 hC hi hD ⟨hv.1, hv.2.2⟩ lsr hl) (fun h => kf h p l e R s m args below meth c H locs cells slots A al cy D mc ms al0 n0 hC hi hD ⟨hv.1, hv.2.2⟩ lsr hl)
theorem wp_icmp_le {x y : Int32} {off : Int} {tgt : Nat} (hd : decode cc pc = .ok (.if_icmp .le off, 3)) (ht : (pc : Int) + off = (tgt : Int)) (kt : x ≤ y → Wp own cc nL ret hh isI d rc rs tgt ls st S I J Q) (kf : ¬ x ≤ y → Wp own cc nL ret hh isI d rc rs (pc + 3) ls st S I J Q) : Wp own cc nL ret hh isI d rc rs pc ls (.int y :: .int x :: st) S I J Q := fun p l e R s m args below meth c H locs cells slots A al cy D mc ms al0 n0 hC hi hD hv lsr hl => lv_icmp_le hC.1.1 hC.1.2.1 hd ht (fun h => kt h p l e R s m args below meth c H locs cells slots A al cy D mc ms al0 n0 hC hi hD ⟨hv.1, hv.2.2.2⟩ lsr hl) (fun h => kf h p l e R s m args below meth c H locs cells slots A al cy D mc ms al0 n0 hC hi hD ⟨hv.1, hv.2.2.2⟩ lsr hl)
theorem wp_goto {off : Int} {tgt : Nat} (hd : decode cc pc = .ok (.goto off, 3)) (ht : (pc : Int) + off = (tgt : Int)) (k : Wp own cc nL ret hh isI d rc rs tgt ls st S I J Q) : Wp own cc nL ret hh isI d rc rs pc ls st S I J Q := fun p l e R s m args below meth c H locs cells slots A al cy D mc ms al0 n0 hC hi hD hv lsr hl => lv_goto hC.1.1 hC.1.2.1 hd ht (k p l e R s m args below meth c H locs cells slots A al cy D mc ms al0 n0 hC hi hD hv lsr hl)
theorem wp_tableIn {dflt lo hi0 : Int} {offs : Array Int} {len : Nat} {x : Int32} {off : Int} {tgt : Nat} (hd : decode cc pc = .ok (.tableswitch dflt lo hi0 offs, len)) (h1 : ¬ x.toInt < lo) (h2 : ¬ hi0 < x.toInt) (ho : offs[(x.toInt - lo).toNat]? = some off) (ht : (pc : Int) + off = (tgt : Int)) (k : Wp own cc nL ret hh isI d rc rs tgt ls st S I J Q) : Wp own cc nL ret hh isI d rc rs pc ls (.int x :: st) S I J Q := fun p l e R s m args below meth c H locs cells slots A al cy D mc ms al0 n0 hC hi hD hv lsr hl => lv_tableIn hC.1.1 hC.1.2.1 hd h1 h2 ho ht (k p l e R s m args below meth c H locs cells slots A al cy D mc ms al0 n0 hC hi hD ⟨hv.1, hv.2.2⟩ lsr hl)
theorem wp_tableOut {dflt lo hi0 : Int} {offs : Array Int} {len : Nat} {x : Int32} {tgt : Nat} (hd : decode cc pc = .ok (.tableswitch dflt lo hi0 offs, len)) (h : x.toInt < lo ∨ hi0 < x.toInt) (ht : (pc : Int) + dflt = (tgt : Int)) (k : Wp own cc nL ret hh isI d rc rs tgt ls st S I J Q) : Wp own cc nL ret hh isI d rc rs pc ls (.int x :: st) S I J Q := fun p l e R s m args below meth c H locs cells slots A al cy D mc ms al0 n0 hC hi hD hv lsr hl => lv_tableOut hC.1.1 hC.1.2.1 hd h ht (k p l e R s m args below meth c H locs cells slots A al cy D mc ms al0 n0 hC hi hD ⟨hv.1, hv.2.2⟩ lsr hl)
theorem wp_ldc {idx : Nat} {v : Int32} (hd : decode cc pc = .ok (.ldc idx, 2)) (hc : Cond.constant own idx v ∈ LW) (k : Wp own cc nL ret hh isI d rc rs (pc + 2) ls (.int v :: st) S I J Q) : Wp own cc nL ret hh isI d rc rs pc ls st S I J Q := fun p l e R s m args below meth c H locs cells slots A al cy D mc ms al0 n0 hC hi hD hv lsr hl => lv_ldc hC.1.1 hC.1.2.1 hC.2.1.1 (hC.2.1.2.1 _ hc) hd (k p l e R s m args below meth c H locs cells slots A al cy D mc ms al0 n0 hC hi hD ⟨hv.1, trivial, hv.2⟩ lsr hl)
theorem wp_ldc_w {idx : Nat} {v : Int32} (hd : decode cc pc = .ok (.ldc_w idx, 3)) (hc : Cond.constant own idx v ∈ LW) (k : Wp own cc nL ret hh isI d rc rs (pc + 3) ls (.int v :: st) S I J Q) : Wp own cc nL ret hh isI d rc rs pc ls st S I J Q := fun p l e R s m args below meth c H locs cells slots A al cy D mc ms al0 n0 hC hi hD hv lsr hl => lv_ldcw hC.1.1 hC.1.2.1 hC.2.1.1 (hC.2.1.2.1 _ hc) hd (k p l e R s m args below meth c H locs cells slots A al cy D mc ms al0 n0 hC hi hD ⟨hv.1, trivial, hv.2⟩ lsr hl)
theorem wp_ldc2 {idx : Nat} {v : Int64} (hd : decode cc pc = .ok (.ldc2_w idx, 3)) (hc : Cond.constantLong own idx v ∈ LW) (k : Wp own cc nL ret hh isI d rc rs (pc + 3) ls (.long v :: st) S I J Q) : Wp own cc nL ret hh isI d rc rs pc ls st S I J Q := fun p l e R s m args below meth c H locs cells slots A al cy D mc ms al0 n0 hC hi hD hv lsr hl => lv_ldc2 hC.1.1 hC.1.2.1 hC.2.1.1 (hC.2.1.2.1 _ hc) hd (k p l e R s m args below meth c H locs cells slots A al cy D mc ms al0 n0 hC hi hD ⟨hv.1, trivial, hv.2⟩ lsr hl)
/-! heap rows -/
def KC (ci : Nat) (C : String) (T : u_T) (N : Nat) : Prop := vwCl[ci]? = some (C, T, N) ∧ kN ci = N ∧ (∀ w ∈ u_ws C T N, w ∈ LW) ∧ (∀ k, k < N → parseFieldDescriptor (T k).2.2.1 = some (kTy ci k)) ∧ (∀ a, a < N → ∀ b, b < N → a ≠ b → (T a).2.1 ≠ (T b).2.1)
def FL (own : String) (idx ci j : Nat) : Prop := ∃ (C : String) (T : u_T) (N : Nat), KC ci C T N ∧ j < N ∧ (Cond.fieldLink own idx (T j).1 (T j).2.1 (T j).2.2.1 ∈ LW ∨ ∃ host, Cond.fieldLinkNest own idx (T j).1 (T j).2.1 (T j).2.2.1 host ∈ NW)
def FP (own : String) (idx ci j : Nat) : Prop := ∃ (C : String) (T : u_T) (N : Nat), KC ci C T N ∧ j < N ∧ (T j).2.2.2 = false ∧ (Cond.fieldLink own idx (T j).1 (T j).2.1 (T j).2.2.1 ∈ LW ∨ ∃ host, Cond.fieldLinkNest own idx (T j).1 (T j).2.1 (T j).2.2.1 host ∈ NW)
def FF (own : String) (idx ci j : Nat) : Prop := ∃ (C : String) (T : u_T) (N : Nat), KC ci C T N ∧ j < N ∧ (T j).2.2.2 = true ∧ (T j).1 = own ∧ Cond.fieldLink own idx (T j).1 (T j).2.1 (T j).2.2.1 ∈ LW
theorem gE_obj {cy : Nat → ClassId} {al : Nat → Nat} {S : gS} {I : gI} {J : gJ} {k ci n : Nat} (h : S.1 k = (ci + 5, n)) : gE cy al S I J k = .inr (ci, (List.range (kN ci)).map (gF al S I J k ci)) := by unfold gE; rw [h]
theorem gE_0 {cy : Nat → ClassId} {al : Nat → Nat} {S : gS} {I : gI} {J : gJ} {k n : Nat} (h : S.1 k = (0, n)) : gE cy al S I J k = .inl (cy 0, n, .inl (I k)) := by unfold gE; rw [h]
theorem gE_1 {cy : Nat → ClassId} {al : Nat → Nat} {S : gS} {I : gI} {J : gJ} {k n : Nat} (h : S.1 k = (1, n)) : gE cy al S I J k = .inl (cy 1, n, .inl (I k)) := by unfold gE; rw [h]
theorem gE_2 {cy : Nat → ClassId} {al : Nat → Nat} {S : gS} {I : gI} {J : gJ} {k n : Nat} (h : S.1 k = (2, n)) : gE cy al S I J k = .inl (cy 2, n, .inl (I k)) := by unfold gE; rw [h]
theorem gE_3 {cy : Nat → ClassId} {al : Nat → Nat} {S : gS} {I : gI} {J : gJ} {k n : Nat} (h : S.1 k = (3, n)) : gE cy al S I J k = .inl (cy 3, n, .inr (.inl (J k))) := by unfold gE; rw [h]
theorem gE_4 {cy : Nat → ClassId} {al : Nat → Nat} {S : gS} {I : gI} {J : gJ} {k n : Nat} (h : S.1 k = (4, n)) : gE cy al S I J k = .inl (cy 4, n, .inr (.inr (.inr (.inr (fun j => (S.2.1 k j).map al))))) := by unfold gE; rw [h]
theorem gE_congr {cy : Nat → ClassId} {al al' : Nat → Nat} {S S' : gS} {I I' : gI} {J J' : gJ} {k : Nat} (h1 : S'.1 k = S.1 k) (h2 : ∀ j, (S'.2.1 k j).map al' = (S.2.1 k j).map al) (h3 : I' k = I k) (h4 : J' k = J k) : gE cy al' S' I' J' k = gE cy al S I J k := by
  have hF : ∀ c, gF al' S' I' J' k c = gF al S I J k c := by
    intro c
    funext j
    unfold gF
    rw [h3, h4, h2]
  have h5 : (fun j => (S'.2.1 k j).map al') = fun j => (S.2.1 k j).map al := funext h2
  unfold gE
  rw [h1, h3, h4, h5]
  split <;> first | rfl | (rw [hF])
theorem upd2_ne {I : gI} {k j a : Nat} {v : Int32} (h : a ≠ k) : upd2 I k j v a = I a := by funext b; simp [upd2, h]
theorem updJ_ne {J : gJ} {k j a : Nat} {v : Int64} (h : a ≠ k) : updJ J k j v a = J a := by funext b; simp [updJ, h]
theorem gF_set {al : Nat → Nat} {S S' : gS} {I I' : gI} {J J' : gJ} {k ci j : Nat} {w : Value} (hj : gF al S' I' J' k ci j = w) (ho : ∀ i, i ≠ j → gF al S' I' J' k ci i = gF al S I J k ci i) : ((List.range (kN ci)).map (gF al S I J k ci)).set j w = (List.range (kN ci)).map (gF al S' I' J' k ci) := by
  apply List.ext_getElem?
  intro i
  by_cases hi : i < kN ci
  · rw [List.getElem?_map, List.getElem?_range hi]
    by_cases hij : i = j
    · subst hij
      rw [List.getElem?_set_self (by simpa using hi)]
      exact congrArg some hj.symm
    · rw [List.getElem?_set_ne (Ne.symm hij), List.getElem?_map, List.getElem?_range hi]
      exact congrArg some (ho i hij).symm
  · rw [List.getElem?_eq_none (by simp; omega), List.getElem?_eq_none (by simp; omega)]
theorem gF_I {al : Nat → Nat} {S : gS} {I : gI} {J : gJ} {k ci j : Nat} (ht : tk (kTy ci j) = 0) : gF al S I J k ci j = .int (I k j) := by unfold gF; rw [ht]; rfl
theorem gF_R {al : Nat → Nat} {S : gS} {I : gI} {J : gJ} {k ci j : Nat} (ht : tk (kTy ci j) = 1) : gF al S I J k ci j = va_rf ((S.2.1 k j).map al) := by unfold gF; rw [ht]; rfl
theorem gF_J {al : Nat → Nat} {S : gS} {I : gI} {J : gJ} {k ci j : Nat} (ht : tk (kTy ci j) = 2) : gF al S I J k ci j = .long (J k j) := by unfold gF; rw [ht]; rfl
theorem gF_at {al : Nat → Nat} {S : gS} {I : gI} {J : gJ} {k ci j N : Nat} (hN : kN ci = N) (hj : j < N) : ((List.range (kN ci)).map (gF al S I J k ci))[j]? = some (gF al S I J k ci j) := by
  rw [List.getElem?_map, List.getElem?_range (by omega)]; rfl
theorem wp_get {k ci j n9 idx : Nat} {v : Value} (hd : decode cc pc = .ok (.getfield idx, 3)) (hf : FL own idx ci j) (hk : S.1 k = (ci + 5, n9)) (hn : k < S.2.2) (hvv : ∀ al, gF al S I J k ci j = tv al v) (hok : wfS S → vok S.2.2 v)
    (kk : Wp own cc nL ret hh isI d rc rs (pc + 3) ls (v :: st) S I J Q) : Wp own cc nL ret hh isI d rc rs pc ls (.ref k :: st) S I J Q := fun p l e R s m args below meth c H locs cells slots A al cy D mc ms al0 n0 hC hi hD hv lsr hl => by
  obtain ⟨C, T, N, ⟨hc, hN, hin, hty, hnm⟩, hj, hlink⟩ := hf
  have he := gW_at (cy := cy) (al := al) (I := I) (J := J) hn
  rw [gE_obj hk] at he
  have hfv := (gF_at (al := al) (S := S) (I := I) (J := J) (k := k) hN hj).trans (congrArg some (hvv al))
  have K := kk p l e R s m args below meth c H locs cells slots A al cy D mc ms al0 n0 hC hi hD ⟨hv.1, hok hD.2.2.2.2.2.2, hv.2.2⟩ lsr hl
  rcases hlink with h1 | ⟨host, h1⟩
  · exact va_get hC.1.1 hC.1.2.1 hC.2.1.2.1 hin hC.2.1.1 hC.2.2.2.1 hD.2.1.1 k he hc j hj (hC.2.1.2.1 _ h1) (fun _ h => h) hfv hd K
  · exact va_getN hC.1.1 hC.1.2.1 hC.2.1.2.1 hin hC.2.1.1 hC.2.2.2.1 hD.2.1.1 k he hc j hj (va_Nw.use rfl (hC.2.1.2.2.1 _ h1)) (fun _ h => h) hfv hd K
theorem wp_getI {k ci j n9 idx : Nat} (hd : decode cc pc = .ok (.getfield idx, 3)) (hf : FL own idx ci j) (ht : tk (kTy ci j) = 0) (hk : S.1 k = (ci + 5, n9)) (hn : k < S.2.2)
    (kk : Wp own cc nL ret hh isI d rc rs (pc + 3) ls (.int (I k j) :: st) S I J Q) : Wp own cc nL ret hh isI d rc rs pc ls (.ref k :: st) S I J Q := wp_get (v := .int (I k j)) hd hf hk hn (fun _ => gF_I ht) (fun _ => trivial) kk
theorem wp_getJ {k ci j n9 idx : Nat} (hd : decode cc pc = .ok (.getfield idx, 3)) (hf : FL own idx ci j) (ht : tk (kTy ci j) = 2) (hk : S.1 k = (ci + 5, n9)) (hn : k < S.2.2)
    (kk : Wp own cc nL ret hh isI d rc rs (pc + 3) ls (.long (J k j) :: st) S I J Q) : Wp own cc nL ret hh isI d rc rs pc ls (.ref k :: st) S I J Q := wp_get (v := .long (J k j)) hd hf hk hn (fun _ => gF_J ht) (fun _ => trivial) kk
theorem wp_getR {k ci j n9 idx r : Nat} (hd : decode cc pc = .ok (.getfield idx, 3)) (hf : FL own idx ci j) (ht : tk (kTy ci j) = 1) (hk : S.1 k = (ci + 5, n9)) (hn : k < S.2.2) (hr : S.2.1 k j = some r)
    (kk : Wp own cc nL ret hh isI d rc rs (pc + 3) ls (.ref r :: st) S I J Q) : Wp own cc nL ret hh isI d rc rs pc ls (.ref k :: st) S I J Q := wp_get (v := .ref r) hd hf hk hn (fun _ => by rw [gF_R ht, hr]; rfl) (fun h => Or.inl (h k j r hn hr)) kk
/-- a put of any kind: the new heap differs at that field alone -/
theorem wp_put {k ci j n9 idx : Nat} {v : Value} {S' : gS} {I' : gI} {J' : gJ} (hd : decode cc pc = .ok (.putfield idx, 3)) (hf : FP own idx ci j ∨ ((∀ (s0 : State) (al9 : Nat → Nat) (A9 : Nat → Prop) (m0 : Method), isI s0 al9 A9 m0 → m0.name = "<init>") ∧ FF own idx ci j)) (hk : S.1 k = (ci + 5, n9)) (hn : k < S.2.2)
    (hfit : ∀ al, narrow (kTy ci j) (tv al v) = tv al v ∧ fits (kTy ci j) (tv al v) = true)
    (e1 : S'.1 = S.1) (e2 : S'.2.2 = S.2.2) (ho : ∀ a, a ≠ k → (∀ b, S'.2.1 a b = S.2.1 a b) ∧ I' a = I a ∧ J' a = J a) (hvv : ∀ al, gF al S' I' J' k ci j = tv al v) (hq : ∀ al i, i ≠ j → gF al S' I' J' k ci i = gF al S I J k ci i) (hwf : wfS S → wfS S')
    (kk : Wp own cc nL ret hh isI d rc rs (pc + 3) ls st S' I' J' Q) : Wp own cc nL ret hh isI d rc rs pc ls (v :: .ref k :: st) S I J Q := fun p l e R s m args below meth c H locs cells slots A al cy D mc ms al0 n0 hC hi hD hv lsr hl => by
  have hE : ∀ a, a ≠ k → gE cy al S' I' J' a = gE cy al S I J a := fun a ha => gE_congr (by rw [e1]) (fun b => by rw [(ho a ha).1 b]) (ho a ha).2.1 (ho a ha).2.2
  have hW := gW_set (cy := cy) (al := al) hn e2 hE
  have hk' : S'.1 k = (ci + 5, n9) := by rw [e1]; exact hk
  rw [gE_obj hk', ← gF_set (S := S) (I := I) (J := J) (hvv al) (hq al)] at hW
  have he := gW_at (cy := cy) (al := al) (I := I) (J := J) hn
  rw [gE_obj hk] at he
  have K : ∀ (H1 : Heap) (locs1 : List Loc), va_P D vwCl ((gW cy al S I J).set k (al k, .inr (ci, ((List.range (kN ci)).map (gF al S I J k ci)).set j (tv al v)))) H1 → va_D A ((gW cy al S I J).set k (al k, .inr (ci, ((List.range (kN ci)).map (gF al S I J k ci)).set j (tv al v)))) → va_S A s.heap H1 locs1 → W p l e R s m args below meth c H1 locs1 cells slots (vx_MQ below (gQ D cy A al0 n0 (n0 + mc) Q) (gXc D cy A al0 n0 (n0 + mc) Q) args s mc ms A) (F0 m (pc + 3) lsr (st.map (tv al))) := by
    intro H1 locs1 hP1 hD1 hS1
    rw [← hW] at hP1 hD1
    exact kk p l e R s m args below meth c H1 locs1 cells slots A al cy D mc ms al0 n0 hC hi ⟨by rw [e2]; exact hD.1, ⟨hP1, hD1⟩, hS1, hD.2.2.2.1, hD.2.2.2.2.1, by rw [e2]; exact hD.2.2.2.2.2.1, hwf hD.2.2.2.2.2.2⟩ (by rw [e2]; exact ⟨hv.1, hv.2.2.2⟩) lsr hl
  rcases hf with ⟨C, T, N, ⟨hc, hN, hin, hty, hnm⟩, hj, hfin, hlink⟩ | ⟨hI, C, T, N, ⟨hc, hN, hin, hty, hnm⟩, hj, hfin, hown2, hlink⟩
  · rcases hlink with h1 | ⟨host, h1⟩
    · exact va_put hC.1.1 hC.1.2.1 hC.2.1.2.1 hin (kTy ci) hty hnm hC.2.1.1 hC.2.2.2.1 hD.2.1.1 hD.2.1.2 hD.2.2.1 k he hc j hj (hC.2.1.2.1 _ h1) (fun _ h => h) hfin (hty j hj) (hfit al).1 (hfit al).2 (by simp; omega) hd K
    · exact va_putN hC.1.1 hC.1.2.1 hC.2.1.2.1 hin (kTy ci) hty hnm hC.2.1.1 hC.2.2.2.1 hD.2.1.1 hD.2.1.2 hD.2.2.1 k he hc j hj (va_Nw.use rfl (hC.2.1.2.2.1 _ h1)) (fun _ h => h) hfin (hty j hj) (hfit al).1 (hfit al).2 (by simp; omega) hd K
  · exact va_putF hC.1.1 hC.1.2.1 hC.2.1.2.1 hin (kTy ci) hty hnm hC.2.1.1 hC.2.2.2.1 hD.2.1.1 hD.2.1.2 hD.2.2.1 k he hc j hj (hC.2.1.2.1 _ hlink) (fun _ h => h) hfin (hI s al0 A meth hi) hown2 (hty j hj) (hfit al).1 (hfit al).2 (by simp; omega) hd K
theorem wp_putI {k ci j n9 idx : Nat} {v : Int32} (hd : decode cc pc = .ok (.putfield idx, 3)) (hf : FP own idx ci j ∨ ((∀ (s0 : State) (al9 : Nat → Nat) (A9 : Nat → Prop) (m0 : Method), isI s0 al9 A9 m0 → m0.name = "<init>") ∧ FF own idx ci j)) (ht : tk (kTy ci j) = 0) (hfit : narrow (kTy ci j) (.int v) = .int v ∧ fits (kTy ci j) (.int v) = true) (hk : S.1 k = (ci + 5, n9)) (hn : k < S.2.2)
    (kk : Wp own cc nL ret hh isI d rc rs (pc + 3) ls st S (upd2 I k j v) J Q) : Wp own cc nL ret hh isI d rc rs pc ls (.int v :: .ref k :: st) S I J Q :=
  wp_put (v := .int v) (S' := S) (I' := upd2 I k j v) (J' := J) hd hf hk hn (fun _ => hfit) rfl rfl (fun a ha => ⟨fun _ => rfl, upd2_ne ha, rfl⟩) (fun al => by rw [gF_I ht]; simp [upd2, tv]) (fun al i hi => by unfold gF; split <;> simp [upd2, hi]) (fun h => h) kk
theorem wp_putJ {k ci j n9 idx : Nat} {v : Int64} (hd : decode cc pc = .ok (.putfield idx, 3)) (hf : FP own idx ci j ∨ ((∀ (s0 : State) (al9 : Nat → Nat) (A9 : Nat → Prop) (m0 : Method), isI s0 al9 A9 m0 → m0.name = "<init>") ∧ FF own idx ci j)) (ht : tk (kTy ci j) = 2) (hfit : narrow (kTy ci j) (.long v) = .long v ∧ fits (kTy ci j) (.long v) = true) (hk : S.1 k = (ci + 5, n9)) (hn : k < S.2.2)
    (kk : Wp own cc nL ret hh isI d rc rs (pc + 3) ls st S I (updJ J k j v) Q) : Wp own cc nL ret hh isI d rc rs pc ls (.long v :: .ref k :: st) S I J Q :=
  wp_put (v := .long v) (S' := S) (I' := I) (J' := updJ J k j v) hd hf hk hn (fun _ => hfit) rfl rfl (fun a ha => ⟨fun _ => rfl, rfl, updJ_ne ha⟩) (fun al => by rw [gF_J ht]; simp [updJ, tv]) (fun al i hi => by unfold gF; split <;> simp [updJ, hi]) (fun h => h) kk
theorem wp_putR {k ci j n9 idx r : Nat} (hd : decode cc pc = .ok (.putfield idx, 3)) (hf : FP own idx ci j ∨ ((∀ (s0 : State) (al9 : Nat → Nat) (A9 : Nat → Prop) (m0 : Method), isI s0 al9 A9 m0 → m0.name = "<init>") ∧ FF own idx ci j)) (ht : tk (kTy ci j) = 1) (hfit : ∀ a : Nat, narrow (kTy ci j) (.ref a) = .ref a ∧ fits (kTy ci j) (.ref a) = true) (hk : S.1 k = (ci + 5, n9)) (hn : k < S.2.2) (hr : r < S.2.2)
    (kk : Wp own cc nL ret hh isI d rc rs (pc + 3) ls st (updR S k j (some r)) I J Q) : Wp own cc nL ret hh isI d rc rs pc ls (.ref r :: .ref k :: st) S I J Q :=
  wp_put (v := .ref r) (S' := updR S k j (some r)) (I' := I) (J' := J) hd hf hk hn (fun al => hfit _) rfl rfl (fun a ha => ⟨fun b => by simp [updR, ha], rfl, rfl⟩) (fun al => by rw [gF_R ht]; simp [updR, tv, va_rf]) (fun al i hi => by unfold gF; split <;> simp [updR, hi])
    (fun h a b r9 ha hb => by
      simp only [updR] at hb ha ⊢
      split at hb
      · cases hb; exact hr
      · exact h a b r9 ha hb) kk
theorem wp_iald {k n : Nat} {i : Int32} (hd : decode cc pc = .ok (.iaload, 1)) (hk : S.1 k = (0, n)) (hn : k < S.2.2) (hin : vp_in i n)
    (kk : Wp own cc nL ret hh isI d rc rs (pc + 1) ls (.int (I k i.toNatClampNeg) :: st) S I J Q) : Wp own cc nL ret hh isI d rc rs pc ls (.int i :: .ref k :: st) S I J Q := fun p l e R s m args below meth c H locs cells slots A al cy D mc ms al0 n0 hC hi hD hv lsr hl => by
  have he := gW_at (cy := cy) (al := al) (I := I) (J := J) hn
  rw [gE_0 hk] at he
  exact va_iald hC.1.1 hC.1.2.1 hC.2.2.2.1 hD.2.1.1 k 0 he rfl hin hd (kk p l e R s m args below meth c H locs cells slots A al cy D mc ms al0 n0 hC hi hD ⟨hv.1, trivial, hv.2.2.2⟩ lsr hl)
theorem wp_bald {k n : Nat} {i : Int32} (hd : decode cc pc = .ok (.baload, 1)) (hk : S.1 k = (1, n)) (hn : k < S.2.2) (hin : vp_in i n)
    (kk : Wp own cc nL ret hh isI d rc rs (pc + 1) ls (.int (I k i.toNatClampNeg) :: st) S I J Q) : Wp own cc nL ret hh isI d rc rs pc ls (.int i :: .ref k :: st) S I J Q := fun p l e R s m args below meth c H locs cells slots A al cy D mc ms al0 n0 hC hi hD hv lsr hl => by
  have he := gW_at (cy := cy) (al := al) (I := I) (J := J) hn
  rw [gE_1 hk] at he
  exact va_bald hC.1.1 hC.1.2.1 hC.2.2.2.1 hD.2.1.1 k 1 he rfl hin hd (kk p l e R s m args below meth c H locs cells slots A al cy D mc ms al0 n0 hC hi hD ⟨hv.1, trivial, hv.2.2.2⟩ lsr hl)
theorem wp_zald {k n : Nat} {i : Int32} (hd : decode cc pc = .ok (.baload, 1)) (hk : S.1 k = (2, n)) (hn : k < S.2.2) (hin : vp_in i n)
    (kk : Wp own cc nL ret hh isI d rc rs (pc + 1) ls (.int (I k i.toNatClampNeg) :: st) S I J Q) : Wp own cc nL ret hh isI d rc rs pc ls (.int i :: .ref k :: st) S I J Q := fun p l e R s m args below meth c H locs cells slots A al cy D mc ms al0 n0 hC hi hD hv lsr hl => by
  have he := gW_at (cy := cy) (al := al) (I := I) (J := J) hn
  rw [gE_2 hk] at he
  exact va_zald hC.1.1 hC.1.2.1 hC.2.2.2.1 hD.2.1.1 k 2 he rfl hin hd (kk p l e R s m args below meth c H locs cells slots A al cy D mc ms al0 n0 hC hi hD ⟨hv.1, trivial, hv.2.2.2⟩ lsr hl)
theorem wp_lald {k n : Nat} {i : Int32} (hd : decode cc pc = .ok (.laload, 1)) (hk : S.1 k = (3, n)) (hn : k < S.2.2) (hin : vp_in i n)
    (kk : Wp own cc nL ret hh isI d rc rs (pc + 1) ls (.long (J k i.toNatClampNeg) :: st) S I J Q) : Wp own cc nL ret hh isI d rc rs pc ls (.int i :: .ref k :: st) S I J Q := fun p l e R s m args below meth c H locs cells slots A al cy D mc ms al0 n0 hC hi hD hv lsr hl => by
  have he := gW_at (cy := cy) (al := al) (I := I) (J := J) hn
  rw [gE_3 hk] at he
  exact va_lald hC.1.1 hC.1.2.1 hC.2.2.2.1 hD.2.1.1 k 3 he rfl hin hd (kk p l e R s m args below meth c H locs cells slots A al cy D mc ms al0 n0 hC hi hD ⟨hv.1, trivial, hv.2.2.2⟩ lsr hl)
theorem wp_aald {k n r : Nat} {i : Int32} (hd : decode cc pc = .ok (.aaload, 1)) (hk : S.1 k = (4, n)) (hn : k < S.2.2) (hin : vp_in i n) (hr : S.2.1 k i.toNatClampNeg = some r)
    (kk : Wp own cc nL ret hh isI d rc rs (pc + 1) ls (.ref r :: st) S I J Q) : Wp own cc nL ret hh isI d rc rs pc ls (.int i :: .ref k :: st) S I J Q := fun p l e R s m args below meth c H locs cells slots A al cy D mc ms al0 n0 hC hi hD hv lsr hl => by
  have he := gW_at (cy := cy) (al := al) (I := I) (J := J) hn
  rw [gE_4 hk] at he
  refine va_aldq hC.1.1 hC.1.2.1 hC.2.2.2.1 hD.2.1.1 k 4 he rfl hin hd ?_
  simp only [hr]
  exact kk p l e R s m args below meth c H locs cells slots A al cy D mc ms al0 n0 hC hi hD ⟨hv.1, Or.inl (hD.2.2.2.2.2.2 k _ r hn hr), hv.2.2.2⟩ lsr hl
theorem wp_alen {k n : Nat} {t : Nat} {v : Int32} (hd : decode cc pc = .ok (.arraylength, 1)) (hk : S.1 k = (t, n)) (ht : t < 3) (hn : k < S.2.2) (h9 : Int32.ofNat n = v)
    (kk : Wp own cc nL ret hh isI d rc rs (pc + 1) ls (.int v :: st) S I J Q) : Wp own cc nL ret hh isI d rc rs pc ls (.ref k :: st) S I J Q := fun p l e R s m args below meth c H locs cells slots A al cy D mc ms al0 n0 hC hi hD hv lsr hl => by
  have he := gW_at (cy := cy) (al := al) (I := I) (J := J) hn
  have K := kk p l e R s m args below meth c H locs cells slots A al cy D mc ms al0 n0 hC hi hD ⟨hv.1, trivial, hv.2.2⟩ lsr hl
  match t, hk, ht with
  | 0, hk, _ =>
    rw [gE_0 hk] at he
    exact va_alen hC.1.1 hC.1.2.1 hC.2.2.2.1 hD.2.1.1 k 0 he rfl h9 hd K
  | 1, hk, _ =>
    rw [gE_1 hk] at he
    exact va_alen hC.1.1 hC.1.2.1 hC.2.2.2.1 hD.2.1.1 k 1 he rfl h9 hd K
  | 2, hk, _ =>
    rw [gE_2 hk] at he
    exact va_alen hC.1.1 hC.1.2.1 hC.2.2.2.1 hD.2.1.1 k 2 he rfl h9 hd K
/-- what a store into one cell leaves -/
theorem Cd_set {rc rs : Nat} {S S' : gS} {I I' : gI} {J J' : gJ} {s : State} {H H1 : Heap} {locs locs1 : List Loc} {cells slots : Nat} {A : Nat → Prop} {al : Nat → Nat} {cy : Nat → ClassId} {D : va_G} {mc ms : Nat} {al0 : Nat → Nat} {n0 k : Nat} {e : va_E}
    (hD : Cd rc rs S I J s H locs cells slots A al cy D mc ms al0 n0) (hn : k < S.2.2) (e1 : S'.1 = S.1) (e2 : S'.2.2 = S.2.2) (ho : ∀ a, a ≠ k → (∀ b, S'.2.1 a b = S.2.1 a b) ∧ I' a = I a ∧ J' a = J a) (he : gE cy al S' I' J' k = e) (hwf : wfS S → wfS S')
    (hP1 : va_P D vwCl ((gW cy al S I J).set k (al k, e)) H1) (hD1 : va_D A ((gW cy al S I J).set k (al k, e))) (hS1 : va_S A s.heap H1 locs1) : Cd rc rs S' I' J' s H1 locs1 cells slots A al cy D mc ms al0 n0 := by
  have hE : ∀ a, a ≠ k → gE cy al S' I' J' a = gE cy al S I J a := fun a ha => gE_congr (by rw [e1]) (fun b => by rw [(ho a ha).1 b]) (ho a ha).2.1 (ho a ha).2.2
  have hW := gW_set (cy := cy) (al := al) hn e2 hE
  rw [he] at hW
  rw [← hW] at hP1 hD1
  exact ⟨by rw [e2]; exact hD.1, ⟨hP1, hD1⟩, hS1, hD.2.2.2.1, hD.2.2.2.2.1, by rw [e2]; exact hD.2.2.2.2.2.1, hwf hD.2.2.2.2.2.2⟩
theorem upd2_at {I : gI} {k j : Nat} {v : Int32} : upd2 I k j v k = upd (I k) j v := by funext b; simp [upd2, upd]
theorem updJ_at {J : gJ} {k j : Nat} {v : Int64} : updJ J k j v k = vp_updL (J k) j v := by funext b; simp [updJ, vp_updL]
theorem wp_iast {k n : Nat} {i x : Int32} (hd : decode cc pc = .ok (.iastore, 1)) (hk : S.1 k = (0, n)) (hn : k < S.2.2) (hin : vp_in i n)
    (kk : Wp own cc nL ret hh isI d rc rs (pc + 1) ls st S (upd2 I k i.toNatClampNeg x) J Q) : Wp own cc nL ret hh isI d rc rs pc ls (.int x :: .int i :: .ref k :: st) S I J Q := fun p l e R s m args below meth c H locs cells slots A al cy D mc ms al0 n0 hC hi hD hv lsr hl => by
  have he := gW_at (cy := cy) (al := al) (I := I) (J := J) hn
  rw [gE_0 hk] at he
  exact va_iast hC.1.1 hC.1.2.1 hC.2.2.2.1 hD.2.1.1 hD.2.1.2 hD.2.2.1 k 0 he rfl hin hd (fun H1 locs1 hP1 hD1 hS1 => kk p l e R s m args below meth c H1 locs1 cells slots A al cy D mc ms al0 n0 hC hi (Cd_set (S' := S) (J' := J) hD hn rfl rfl (fun a ha => ⟨fun _ => rfl, upd2_ne ha, rfl⟩) (by rw [gE_0 hk, upd2_at]) (fun h => h) hP1 hD1 hS1) ⟨hv.1, hv.2.2.2.2⟩ lsr hl)
theorem wp_bast {k n : Nat} {i x : Int32} (hd : decode cc pc = .ok (.bastore, 1)) (hk : S.1 k = (1, n)) (hn : k < S.2.2) (hin : vp_in i n)
    (kk : Wp own cc nL ret hh isI d rc rs (pc + 1) ls st S (upd2 I k i.toNatClampNeg (vp_nar .byte x)) J Q) : Wp own cc nL ret hh isI d rc rs pc ls (.int x :: .int i :: .ref k :: st) S I J Q := fun p l e R s m args below meth c H locs cells slots A al cy D mc ms al0 n0 hC hi hD hv lsr hl => by
  have he := gW_at (cy := cy) (al := al) (I := I) (J := J) hn
  rw [gE_1 hk] at he
  exact va_bast hC.1.1 hC.1.2.1 hC.2.2.2.1 hD.2.1.1 hD.2.1.2 hD.2.2.1 k 1 he rfl hin hd (fun H1 locs1 hP1 hD1 hS1 => kk p l e R s m args below meth c H1 locs1 cells slots A al cy D mc ms al0 n0 hC hi (Cd_set (S' := S) (J' := J) hD hn rfl rfl (fun a ha => ⟨fun _ => rfl, upd2_ne ha, rfl⟩) (by rw [gE_1 hk, upd2_at]) (fun h => h) hP1 hD1 hS1) ⟨hv.1, hv.2.2.2.2⟩ lsr hl)
theorem wp_zast {k n : Nat} {i x : Int32} (hd : decode cc pc = .ok (.bastore, 1)) (hk : S.1 k = (2, n)) (hn : k < S.2.2) (hin : vp_in i n)
    (kk : Wp own cc nL ret hh isI d rc rs (pc + 1) ls st S (upd2 I k i.toNatClampNeg (vp_nar .boolean x)) J Q) : Wp own cc nL ret hh isI d rc rs pc ls (.int x :: .int i :: .ref k :: st) S I J Q := fun p l e R s m args below meth c H locs cells slots A al cy D mc ms al0 n0 hC hi hD hv lsr hl => by
  have he := gW_at (cy := cy) (al := al) (I := I) (J := J) hn
  rw [gE_2 hk] at he
  exact va_zast hC.1.1 hC.1.2.1 hC.2.2.2.1 hD.2.1.1 hD.2.1.2 hD.2.2.1 k 2 he rfl hin hd (fun H1 locs1 hP1 hD1 hS1 => kk p l e R s m args below meth c H1 locs1 cells slots A al cy D mc ms al0 n0 hC hi (Cd_set (S' := S) (J' := J) hD hn rfl rfl (fun a ha => ⟨fun _ => rfl, upd2_ne ha, rfl⟩) (by rw [gE_2 hk, upd2_at]) (fun h => h) hP1 hD1 hS1) ⟨hv.1, hv.2.2.2.2⟩ lsr hl)
theorem wp_last {k n : Nat} {i : Int32} {x : Int64} (hd : decode cc pc = .ok (.lastore, 1)) (hk : S.1 k = (3, n)) (hn : k < S.2.2) (hin : vp_in i n)
    (kk : Wp own cc nL ret hh isI d rc rs (pc + 1) ls st S I (updJ J k i.toNatClampNeg x) Q) : Wp own cc nL ret hh isI d rc rs pc ls (.long x :: .int i :: .ref k :: st) S I J Q := fun p l e R s m args below meth c H locs cells slots A al cy D mc ms al0 n0 hC hi hD hv lsr hl => by
  have he := gW_at (cy := cy) (al := al) (I := I) (J := J) hn
  rw [gE_3 hk] at he
  exact va_last hC.1.1 hC.1.2.1 hC.2.2.2.1 hD.2.1.1 hD.2.1.2 hD.2.2.1 k 3 he rfl hin hd (fun H1 locs1 hP1 hD1 hS1 => kk p l e R s m args below meth c H1 locs1 cells slots A al cy D mc ms al0 n0 hC hi (Cd_set (S' := S) (I' := I) hD hn rfl rfl (fun a ha => ⟨fun _ => rfl, rfl, updJ_ne ha⟩) (by rw [gE_3 hk, updJ_at]) (fun h => h) hP1 hD1 hS1) ⟨hv.1, hv.2.2.2.2⟩ lsr hl)
theorem wp_aast {k n r n9 : Nat} {i : Int32} (hd : decode cc pc = .ok (.aastore, 1)) (hk : S.1 k = (4, n)) (hn : k < S.2.2) (hin : vp_in i n) (hr : S.1 r = (13, n9)) (hrn : r < S.2.2)
    (kk : Wp own cc nL ret hh isI d rc rs (pc + 1) ls st (updR S k i.toNatClampNeg (some r)) I J Q) : Wp own cc nL ret hh isI d rc rs pc ls (.ref r :: .int i :: .ref k :: st) S I J Q := fun p l e R s m args below meth c H locs cells slots A al cy D mc ms al0 n0 hC hi hD hv lsr hl => by
  have he := gW_at (cy := cy) (al := al) (I := I) (J := J) hn
  rw [gE_4 hk] at he
  have he2 := gW_at (cy := cy) (al := al) (I := I) (J := J) hrn
  rw [gE_obj (ci := 8) hr] at he2
  exact va_astq hC.1.1 hC.1.2.1 hC.2.2.2.1 hD.2.1.1 hD.2.1.2 hD.2.2.1 k 4 r 8 (r := (RX8, TX8, 3)) he rfl he2 rfl hin hd (fun H1 locs1 hP1 hD1 hS1 => kk p l e R s m args below meth c H1 locs1 cells slots A al cy D mc ms al0 n0 hC hi (Cd_set (S' := updR S k i.toNatClampNeg (some r)) (I' := I) (J' := J) hD hn rfl rfl (fun a ha => ⟨fun b => by simp [updR, ha], rfl, rfl⟩) (by
      rw [gE_4 (n := n) (show (updR S k i.toNatClampNeg (some r)).1 k = (4, n) from hk)]
      have : (fun j => ((updR S k i.toNatClampNeg (some r)).2.1 k j).map al) = va_up (fun j => (S.2.1 k j).map al) i.toNatClampNeg (some (al r)) := by
        funext j
        by_cases hj : j = i.toNatClampNeg <;> simp [updR, va_up, hj]
      rw [this]) (fun h a b r9 ha hb => by
      simp only [updR] at hb ha ⊢
      split at hb
      · cases hb; exact hrn
      · exact h a b r9 ha hb) hP1 hD1 hS1) ⟨hv.1, hv.2.2.2.2⟩ lsr hl)
def updRow (I : gI) (k : Nat) (f : Nat → Int32) : gI := fun a => if a = k then f else I a
theorem wp_acopy {idx k0 k1 n0' n1 : Nat} {sp dp n : Int32} (hd : decode cc pc = .ok (.invokestatic idx, 3)) (hlink : Cond.methodLink own idx arraycopyName ∈ LW) (hk0 : S.1 k0 = (0, n0')) (hn0 : k0 < S.2.2) (hk1 : S.1 k1 = (0, n1)) (hn1 : k1 < S.2.2)
    (hnat : Cond.native arraycopyName ∈ LW) (hstat : Cond.static arraycopyName ∈ LW) (hini : Cond.initialized "java/lang/System" ∈ LW) (hdep : 1 ≤ d)
    (h1 : ¬ sp < 0) (h2 : ¬ dp < 0) (h3 : ¬ n < 0) (h4 : sp.toNatClampNeg + n.toNatClampNeg ≤ n0') (h5 : dp.toNatClampNeg + n.toNatClampNeg ≤ n1) (hroom : (st.map fun v => v.category).sum + (nativeFrameWords "java/lang/System" "arraycopy" 5 + 11) ≤ 64)
    (kk : Wp own cc nL ret hh isI d rc rs (pc + 3) ls st S (updRow I k1 (va_cpy (I k0) (I k1) sp.toNatClampNeg dp.toNatClampNeg n.toNatClampNeg)) J Q) : Wp own cc nL ret hh isI d rc rs pc ls (.int n :: .int dp :: .ref k1 :: .int sp :: .ref k0 :: st) S I J Q := fun p l e R s m args below meth c H locs cells slots A al cy D mc ms al0 n0 hC hi hD hv lsr hl => by
  have he0 := gW_at (cy := cy) (al := al) (I := I) (J := J) hn0
  rw [gE_0 hk0] at he0
  have he1 := gW_at (cy := cy) (al := al) (I := I) (J := J) hn1
  rw [gE_0 hk1] at he1
  have hw := hC.2.1.2.1
  exact va_copyi hC.1.1 hC.1.2.1 (hC.1.2.2.1.trans hl.1.symm) hC.2.1.1 (hw _ hlink) (hw _ hnat) (hw _ hstat) (hw _ hini) hC.2.2.2.1 hD.2.1.1 hD.2.1.2 hD.2.2.1 k0 k1 0 0 he0 he1 rfl rfl rfl h1 h2 h3 h4 h5 (fun _ _ => rfl) (Nat.le_trans hdep hC.2.2.1.1) (by have := hC.2.2.1.2.1; rw [cat_sum]; omega) hd
    (fun H1 locs1 hP1 hD1 hS1 => kk p l e R s m args below meth c H1 locs1 cells slots A al cy D mc ms al0 n0 hC hi (Cd_set (S' := S) (J' := J) hD hn1 rfl rfl (fun a ha => ⟨fun _ => rfl, by simp [updRow, ha], rfl⟩) (by rw [gE_0 hk1]; simp [updRow]) (fun h => h) hP1 hD1 hS1) ⟨hv.1, hv.2.2.2.2.2.2⟩ lsr hl)
theorem wp_max {idx : Nat} {x y : Int32} (hd : decode cc pc = .ok (.invokestatic idx, 3)) (hlink : Cond.methodLink own idx Lib.Math.max.name ∈ LW) (h1 : Cond.static Lib.Math.max.name ∈ LW) (h2 : Cond.initialized "java/lang/Math" ∈ LW) (h3 : Cond.code Lib.Math.max.name Lib.Math.max.code 2 (some .int) ∈ LW) (hdep : 1 ≤ d) (hroom : (st.map fun v => v.category).sum + 13 ≤ 64)
    (kk : Wp own cc nL ret hh isI d rc rs (pc + 3) ls (.int (if x < y then y else x) :: st) S I J Q) : Wp own cc nL ret hh isI d rc rs pc ls (.int y :: .int x :: st) S I J Q := fun p l e R s m args below meth c H locs cells slots A al cy D mc ms al0 n0 hC hi hD hv lsr hl => by
  have hw := hC.2.1.2.1
  have hr := hC.2.2.1
  have hr2 := hD.1
  exact va_mmax hC.1.1 hC.1.2.1 (hC.1.2.2.1.trans hl.1.symm) hC.2.1.1 (hw _ hlink) (hw _ h1) (hw _ h2) (hw _ h3) (Nat.le_trans hdep hr.1) (by rw [cat_sum]; omega) (by omega) (by omega) hd (kk p l e R s m args below meth c H locs cells slots A al cy D mc ms al0 n0 hC hi hD ⟨hv.1, trivial, hv.2.2.2⟩ lsr hl)
theorem wp_min {idx : Nat} {x y : Int32} (hd : decode cc pc = .ok (.invokestatic idx, 3)) (hlink : Cond.methodLink own idx Lib.Math.min.name ∈ LW) (h1 : Cond.static Lib.Math.min.name ∈ LW) (h2 : Cond.initialized "java/lang/Math" ∈ LW) (h3 : Cond.code Lib.Math.min.name Lib.Math.min.code 2 (some .int) ∈ LW) (hdep : 1 ≤ d) (hroom : (st.map fun v => v.category).sum + 13 ≤ 64)
    (kk : Wp own cc nL ret hh isI d rc rs (pc + 3) ls (.int (if y < x then y else x) :: st) S I J Q) : Wp own cc nL ret hh isI d rc rs pc ls (.int y :: .int x :: st) S I J Q := fun p l e R s m args below meth c H locs cells slots A al cy D mc ms al0 n0 hC hi hD hv lsr hl => by
  have hw := hC.2.1.2.1
  have hr := hC.2.2.1
  have hr2 := hD.1
  exact va_mmin hC.1.1 hC.1.2.1 (hC.1.2.2.1.trans hl.1.symm) hC.2.1.1 (hw _ hlink) (hw _ h1) (hw _ h2) (hw _ h3) (Nat.le_trans hdep hr.1) (by rw [cat_sum]; omega) (by omega) (by omega) hd (kk p l e R s m args below meth c H locs cells slots A al cy D mc ms al0 n0 hC hi hD ⟨hv.1, trivial, hv.2.2.2⟩ lsr hl)
theorem tv_push {al : Nat → Nat} {n q : Nat} (hn : n < gSB) {v : Value} (h : vok n v) : tv (fun k => if k = n then q else al k) v = tv al v := by
  cases v with
  | ref r =>
    have h' : vokN n r := h
    show Value.ref (if r = n then q else al r) = Value.ref (al r)
    rw [if_neg (fun e => by rw [e] at h'; unfold vokN at h'; omega)]
  | _ => rfl
theorem map_push {al : Nat → Nat} {n q : Nat} (hn : n < gSB) {st : List Value} (h : ∀ v ∈ st, vok n v) : st.map (tv (fun k => if k = n then q else al k)) = st.map (tv al) := List.map_congr_left fun v hv => tv_push hn (h v hv)
theorem lmap_push {al : Nat → Nat} {n q : Nat} (hn : n < gSB) {ls : List (Nat × Value)} (h : ∀ v ∈ ls, vok n v.2) : (ls.map fun z => (z.1, tv (fun k => if k = n then q else al k) z.2)) = ls.map fun z => (z.1, tv al z.2) := List.map_congr_left fun v hv => by rw [tv_push hn (h v hv)]
theorem gX_al {al al' : Nat → Nat} (e : ∀ k, gSB ≤ k → al' k = al k) {A : Nat → Prop} {U : State} {H : Heap} (h : gX al A U H) : gX al' A U H := by
  obtain ⟨h1, h2, h3, h4, h5, h6, h7⟩ := h
  refine ⟨fun i z hz => ?_, ?_, h3, h4, h5, h6, ?_⟩
  · rw [e _ (Nat.le_add_right _ _)]
    exact h1 i z hz
  · have e1 : (fun i => al' (gSB + i)) = fun i => al (gSB + i) := funext fun i => e _ (Nat.le_add_right _ _)
    have e2 : (fun i => al' (gSB + 100 + i)) = fun i => al (gSB + 100 + i) := funext fun i => e _ (by omega)
    rw [e1, e2]
    exact h2
  · rw [e _ (Nat.le_add_right _ _)]
    exact h7
theorem gX_push {al : Nat → Nat} {n q : Nat} (hn : n < gSB) {A : Nat → Prop} {U : State} {H : Heap} (h : gX al A U H) : gX (fun k => if k = n then q else al k) A U H := gX_al (fun k hk => if_neg (by omega)) h
/-- behind a cell that was made -/
theorem Cd_push {rc rs n9 : Nat} {S : gS} {I : gI} {J : gJ} {s : State} {H H1 : Heap} {locs : List Loc} {cells slots q : Nat} {A : Nat → Prop} {al : Nat → Nat} {cy : Nat → ClassId} {D : va_G} {mc ms : Nat} {al0 : Nat → Nat} {n0 : Nat} {e : va_E} {kd : Nat × Nat}
    (hD : Cd (rc + 1) (rs + n9) S I J s H locs cells slots A al cy D mc ms al0 n0)
    (he : gE cy (fun k => if k = S.2.2 then q else al k) (newS S kd) (newI I S.2.2) (newJ J S.2.2) S.2.2 = e)
    (hP1 : va_P D vwCl (gW cy al S I J ++ [(q, e)]) H1) (hD1 : va_D A (gW cy al S I J ++ [(q, e)])) (hS1 : va_S A s.heap H1 locs) :
    Cd rc rs (newS S kd) (newI I S.2.2) (newJ J S.2.2) s H1 locs (cells + 1) (slots + n9) A (fun k => if k = S.2.2 then q else al k) cy D mc ms al0 n0 := by
  have hlt : S.2.2 < gSB := by have := hD.1; omega
  have hwf := hD.2.2.2.2.2.2
  have hW := gW_push (cy := cy) (al := al) (al' := fun k => if k = S.2.2 then q else al k) (S := S) (S' := newS S kd) (I := I) (I' := newI I S.2.2) (J := J) (J' := newJ J S.2.2) rfl (fun a ha => ⟨if_neg (by omega), gE_congr (by simp [newS]; omega) (fun j => by
      have hne : a ≠ S.2.2 := by omega
      simp only [newS, hne, if_false]
      cases hr : S.2.1 a j with
      | none => rfl
      | some r =>
        have := hwf a j r ha hr
        simp only [Option.map_some]
        rw [if_neg (by omega)]) (by funext b; simp only [newI]; rw [if_neg (by omega)]) (by funext b; simp only [newJ]; rw [if_neg (by omega)])⟩)
  rw [he] at hW
  have e2 : (if S.2.2 = S.2.2 then q else al S.2.2) = q := if_pos rfl
  simp only [e2] at hW
  refine ⟨⟨by have := hD.1.1; omega, by have := hD.1.2.1; omega, by have := hD.1; show S.2.2 + 1 + rc ≤ n0 + mc; omega, hD.1.2.2.2⟩, ⟨by rw [hW]; exact hP1, by rw [hW]; exact hD1⟩, hS1, gX_push hlt hD.2.2.2.1, ?_, ?_, ?_⟩
  · intro k hk
    have h9 := hD.2.2.2.2.2.1
    show (if k = S.2.2 then q else al k) = al0 k
    rw [if_neg (by omega)]
    exact hD.2.2.2.2.1 k hk
  · have := hD.2.2.2.2.2.1
    show n0 ≤ S.2.2 + 1
    omega
  · intro k j r hk hr
    have hk' : k < S.2.2 + 1 := hk
    show r < S.2.2 + 1
    simp only [newS] at hr
    split at hr
    · cases hr
    · have := hwf k j r (by omega) hr
      omega
theorem gT_same {cy : Nat → ClassId} {D : va_G} {cl : List vw_C} {s : State} {t : Nat} {cA : ClassId} {ty : FieldType} (hK : va_K D cl (gT cy) s) (h0 : (gT cy)[t]? = some (cy t, ty)) (hK1 : va_K D cl (gT cy ++ [(cA, ty)]) s) : cA = cy t := by
  have h1 := (hK.2 t _ h0).2
  have h2 := (hK1.2 5 (cA, ty) rfl).2
  unfold va_RA at h1 h2
  cases ty with
  | object C =>
    obtain ⟨_, _, _, _, _, h1⟩ := h1
    obtain ⟨_, _, _, _, _, h2⟩ := h2
    exact Option.some.inj (h2.symm.trans h1)
  | _ => exact Option.some.inj (h2.symm.trans h1)
theorem wp_newa {t n9 : Nat} {ty : FieldType} {atype : ArrayType} {n : Int32} (hd : decode cc pc = .ok (.newarray atype, 2)) (hty : newarray.typeOf atype = ty) (hac : Cond.arrayClass ty ∈ LW) (ht : t < 4) (h0 : ∀ cy, (gT cy)[t]? = some (cy t, ty)) (hn : ¬ n < 0) (hN : n.toNatClampNeg = n9) (hbytes : n9 * componentBytes ty ≤ 536870912)
    (kk : Wp own cc nL ret hh isI d rc rs (pc + 2) ls (.ref S.2.2 :: st) (newS S (t, n9)) (newI I S.2.2) (newJ J S.2.2) Q) : Wp own cc nL ret hh isI d (rc + 1) (rs + n9) pc ls (.int n :: st) S I J Q := fun p l e R s m args below meth c H locs cells slots A al cy D mc ms al0 n0 hC hi hD hv lsr hl => by
  have hlt : S.2.2 < gSB := by have := hD.1; omega
  have hr := hC.2.2.1
  have hr2 := hD.1
  have hac' := hC.2.1.2.1 _ hac
  subst hty
  have main : ∀ a0 : vp_A, (∀ cA : ClassId, vp_cell cA a0 = arrV cA n9 (fun _ => defaultValue (newarray.typeOf atype))) → (∀ q, gE cy (fun k => if k = S.2.2 then q else al k) (newS S (t, n9)) (newI I S.2.2) (newJ J S.2.2) S.2.2 = .inl (cy t, a0)) → W p l e R s m args below meth c H locs cells slots (vx_MQ below (gQ D cy A al0 n0 (n0 + mc) Q) (gXc D cy A al0 n0 (n0 + mc) Q) args s mc ms A) (F0 m pc lsr (List.map (tv al) (.int n :: st))) := by
    intro a0 ha hq
    refine va_newa hC.1.1 hC.1.2.1 hac' rfl hC.2.2.2.1 hD.2.1.1 hD.2.1.2 hD.2.2.1 hC.2.2.2.2 ha hn hN hbytes (by omega) (by omega) hd (fun q cA H1 hK1 hP1 hD1 hS1 => ?_)
    have e1 := gT_same hC.2.2.2.1 (h0 cy) hK1
    subst e1
    have K := kk p l e R s m args below meth c H1 locs (cells + 1) (slots + n9) A (fun k => if k = S.2.2 then q else al k) cy D mc ms al0 n0 hC hi (Cd_push hD (hq q) hP1 hD1 hS1) ⟨vokP_mono (Nat.le_succ _) hv.1, Or.inl (Nat.lt_succ_self _), vokL_mono (Nat.le_succ _) hv.2.2⟩ lsr (by rw [lmap_push hlt (vokP_mem hv.1)]; exact hl)
    rw [List.map_cons, map_push hlt (vokL_mem hv.2.2)] at K
    have e2 : tv (fun k => if k = S.2.2 then q else al k) (.ref S.2.2) = .ref q := by simp [tv]
    rw [e2] at K
    exact K
  have e3 : newI I S.2.2 S.2.2 = fun _ => 0 := by funext b; simp [newI]
  have e4 : newJ J S.2.2 S.2.2 = fun _ => 0 := by funext b; simp [newJ]
  have e1 : (newS S (t, n9)).1 S.2.2 = (t, n9) := by simp [newS]
  have h0 := h0 cy
  clear kk
  rcases (show t = 0 ∨ t = 1 ∨ t = 2 ∨ t = 3 by omega) with rfl | rfl | rfl | rfl
  · have hz : newarray.typeOf atype = .int := by simp [gT] at h0; exact h0.symm
    exact main (n9, .inl fun _ => 0) (fun cA => by rw [hz]; rfl) (fun q => by rw [gE_0 e1, e3])
  · have hz : newarray.typeOf atype = .byte := by simp [gT] at h0; exact h0.symm
    exact main (n9, .inl fun _ => 0) (fun cA => by rw [hz]; rfl) (fun q => by rw [gE_1 e1, e3])
  · have hz : newarray.typeOf atype = .boolean := by simp [gT] at h0; exact h0.symm
    exact main (n9, .inl fun _ => 0) (fun cA => by rw [hz]; rfl) (fun q => by rw [gE_2 e1, e3])
  · have hz : newarray.typeOf atype = .long := by simp [gT] at h0; exact h0.symm
    exact main (n9, .inr (.inl fun _ => 0)) (fun cA => by rw [hz]; rfl) (fun q => by rw [gE_3 e1, e4])
theorem wp_newq {n9 idx : Nat} {n : Int32} (hd : decode cc pc = .ok (.anewarray idx, 3)) (hcl : Cond.classLink own idx RX8 ∈ LW) (hn : ¬ n < 0) (hN : n.toNatClampNeg = n9) (hbytes : n9 * 4 ≤ 536870912)
    (kk : Wp own cc nL ret hh isI d rc rs (pc + 3) ls (.ref S.2.2 :: st) (newS S (4, n9)) (newI I S.2.2) (newJ J S.2.2) Q) : Wp own cc nL ret hh isI d (rc + 1) (rs + n9) pc ls (.int n :: st) S I J Q := fun p l e R s m args below meth c H locs cells slots A al cy D mc ms al0 n0 hC hi hD hv lsr hl => by
  have hlt : S.2.2 < gSB := by have := hD.1; omega
  have hr := hC.2.2.1
  have hr2 := hD.1
  refine va_newq hC.1.1 hC.1.2.1 hC.2.1.1 (hC.2.1.2.1 _ hcl) hD.2.2.2.1.2.2.2.2.1 hC.2.2.2.1 hD.2.1.1 hD.2.1.2 hD.2.2.1 hC.2.2.2.2 hn hN hbytes (by omega) (by omega) hd (fun q cA H1 hK1 hP1 hD1 hS1 => ?_)
  have e1 := gT_same (t := 4) hC.2.2.2.1 rfl hK1
  subst e1
  have K := kk p l e R s m args below meth c H1 locs (cells + 1) (slots + n9) A (fun k => if k = S.2.2 then q else al k) cy D mc ms al0 n0 hC hi (Cd_push hD (by
    rw [gE_4 (n := n9) (by simp [newS])]
    have : (fun j => ((newS S (4, n9)).2.1 S.2.2 j).map (fun k => if k = S.2.2 then q else al k)) = fun _ => none := by funext j; simp [newS]
    rw [this]) hP1 hD1 hS1) ⟨vokP_mono (Nat.le_succ _) hv.1, Or.inl (Nat.lt_succ_self _), vokL_mono (Nat.le_succ _) hv.2.2⟩ lsr (by rw [lmap_push hlt (vokP_mem hv.1)]; exact hl)
  rw [List.map_cons, map_push hlt (vokL_mem hv.2.2)] at K
  have e2 : tv (fun k => if k = S.2.2 then q else al k) (.ref S.2.2) = .ref q := by simp [tv]
  rw [e2] at K
  exact K
theorem wp_new {ci idx : Nat} {C : String} {T : u_T} {N : Nat} (hd : decode cc pc = .ok (.new idx, 3)) (hKC : KC ci C T N) (hcl : Cond.classLink own idx C ∈ LW) (hinst : Cond.instantiable C N ∈ LW) (hini : Cond.initialized C ∈ LW) (hdf : ∀ j, j < N → defaultValue (kTy ci j) = match tk (kTy ci j) with | 0 => .int 0 | 2 => .long 0 | _ => .null)
    (kk : Wp own cc nL ret hh isI d rc rs (pc + 3) ls (.ref S.2.2 :: st) (newS S (ci + 5, 0)) (newI I S.2.2) (newJ J S.2.2) Q) : Wp own cc nL ret hh isI d (rc + 1) (rs + N) pc ls st S I J Q := fun p l e R s m args below meth c H locs cells slots A al cy D mc ms al0 n0 hC hi hD hv lsr hl => by
  have hlt : S.2.2 < gSB := by have := hD.1; omega
  have hr := hC.2.2.1
  have hr2 := hD.1
  have hw := hC.2.1.2.1
  obtain ⟨hc, hN, hin, hty, hnm⟩ := hKC
  refine va_new (fs := (List.range (kN ci)).map fun j => defaultValue (kTy ci j)) hC.1.1 hC.1.2.1 hw hin (kTy ci) hty hC.2.1.1 (hw _ hcl) (hw _ hinst) (hw _ hini) hC.2.2.2.1 hD.2.1.1 hD.2.1.2 hD.2.2.1 hC.2.2.2.2 hc (fun j hj => by unfold vp_V; rw [List.getD_eq_getElem?_getD, List.getElem?_map, List.getElem?_range (by omega)]; rfl) (by omega) (by omega) hd (fun q H1 hP1 hD1 hS1 => ?_)
  have K := kk p l e R s m args below meth c H1 locs (cells + 1) (slots + N) A (fun k => if k = S.2.2 then q else al k) cy D mc ms al0 n0 hC hi (Cd_push hD (by
    rw [gE_obj (ci := ci) (n := 0) (by simp [newS])]
    congr 2
    apply List.map_congr_left
    intro j hj
    have hj' : j < N := by rw [← hN]; exact List.mem_range.mp hj
    rw [hdf j hj']
    unfold gF
    generalize tk (kTy ci j) = z
    rcases z with _ | _ | _ | z <;> simp [newS, newI, newJ, va_rf]) hP1 hD1 hS1) ⟨vokP_mono (Nat.le_succ _) hv.1, Or.inl (Nat.lt_succ_self _), vokL_mono (Nat.le_succ _) hv.2⟩ lsr (by rw [lmap_push hlt (vokP_mem hv.1)]; exact hl)
  rw [List.map_cons, map_push hlt (vokL_mem hv.2)] at K
  have e2 : tv (fun k => if k = S.2.2 then q else al k) (.ref S.2.2) = .ref q := by simp [tv]
  rw [e2] at K
  exact K
theorem wp_objInit {idx k : Nat} (hd : decode cc pc = .ok (.invokespecial idx, 3)) (h1 : Cond.methodLink own idx objectInit ∈ LW) (h2 : Cond.instanceMethod objectInit ∈ LW) (h3 : Cond.code objectInit ⟨#[0xb1]⟩ 1 none ∈ LW) (hdep : 1 ≤ d) (hroom : (st.map fun v => v.category).sum + 12 ≤ 64)
    (kk : Wp own cc nL ret hh isI d rc rs (pc + 3) ls st S I J Q) : Wp own cc nL ret hh isI d rc rs pc ls (.ref k :: st) S I J Q := fun p l e R s m args below meth c H locs cells slots A al cy D mc ms al0 n0 hC hi hD hv lsr hl => by
  have hw := hC.2.1.2.1
  have hr := hC.2.2.1
  refine W.objInit hC.1.1 hC.1.2.1 hC.2.1.1 (hw _ h1) (hw _ h2) (hw _ h3) rfl (by rw [hC.1.2.2.1]; exact hl.1) rfl hd (Nat.le_trans hdep hr.1) (by show 2 * 0 + _ + 12 ≤ _; rw [cat_sum]; omega) ?_
  exact kk p l e R s m args below meth c H locs cells slots A al cy D mc ms al0 n0 hC hi hD ⟨hv.1, hv.2.2⟩ lsr hl
/-! ends -/
theorem gQ_of {rc rs : Nat} {s t : State} {H : Heap} {locs : List Loc} {cells slots : Nat} {A : Nat → Prop} {al : Nat → Nat} {cy : Nat → ClassId} {D : va_G} {mc ms : Nat} {al0 : Nat → Nat} {n0 : Nat} {args : Array Value} {v : Option Value}
    (hD : Cd rc rs S I J s H locs cells slots A al cy D mc ms al0 n0) (ht : t.heap = H) (hq : Q (.inl v) S I J) : gQ D cy A al0 n0 (n0 + mc) Q args s (.returned (v.map (tv al))) t :=
  ⟨⟨v, S, I, J, al, rfl, hq, by rw [ht]; exact hD.2.1, hD.2.2.2.2.1, hD.2.2.2.2.2.1, hD.2.2.2.2.2.2, by have := hD.1; omega⟩, hD.2.2.1.F ht⟩
theorem wp_iret {v : Int32} (hd : decode cc pc = .ok (.ireturn, 1)) (hr : ret = some .int) (hq : Q (.inl (some (.int v))) S I J) : Wp own cc nL ret hh isI d rc rs pc ls [.int v] S I J Q := fun p l e R s m args below meth c H locs cells slots A al cy D mc ms al0 n0 hC hi hD hv lsr hl => by
  have hr2 := hD.1
  refine W.widen (k := mc) (n := ms) (by omega) (by omega) (vx_ret ?_)
  exact W.iret (v := v) hC.1.1 hC.1.2.1 (hC.1.2.2.2.1.trans hr) (fun t ht hW => gQ_of hD ht hq) hD.2.2.1.2.2 hd hC.1.2.2.2.2.1
theorem wp_zret {v : Int32} (hd : decode cc pc = .ok (.ireturn, 1)) (hr : ret = some .boolean) (hz : v = 0 ∨ v = 1) (hq : Q (.inl (some (.int v))) S I J) : Wp own cc nL ret hh isI d rc rs pc ls [.int v] S I J Q := fun p l e R s m args below meth c H locs cells slots A al cy D mc ms al0 n0 hC hi hD hv lsr hl => by
  have hr2 := hD.1
  refine W.widen (k := mc) (n := ms) (by omega) (by omega) (vx_ret ?_)
  exact W.zret (v := v) (ty := .boolean) hC.1.1 hC.1.2.1 (hC.1.2.2.2.1.trans hr) (by rcases hz with rfl | rfl <;> rfl) (fun t ht hW => gQ_of hD ht hq) hD.2.2.1.2.2 hd hC.1.2.2.2.2.1
theorem wp_lret {v : Int64} (hd : decode cc pc = .ok (.lreturn, 1)) (hr : ret = some .long) (hq : Q (.inl (some (.long v))) S I J) : Wp own cc nL ret hh isI d rc rs pc ls [.long v] S I J Q := fun p l e R s m args below meth c H locs cells slots A al cy D mc ms al0 n0 hC hi hD hv lsr hl => by
  have hr2 := hD.1
  refine W.widen (k := mc) (n := ms) (by omega) (by omega) (vx_ret ?_)
  exact W.lret (v := v) hC.1.1 hC.1.2.1 (hC.1.2.2.2.1.trans hr) (fun t ht hW => gQ_of hD ht hq) hD.2.2.1.2.2 hd hC.1.2.2.2.2.1
theorem wp_vret (hd : decode cc pc = .ok (.return_, 1)) (hr : ret = none) (hq : Q (.inl none) S I J) : Wp own cc nL ret hh isI d rc rs pc ls [] S I J Q := fun p l e R s m args below meth c H locs cells slots A al cy D mc ms al0 n0 hC hi hD hv lsr hl => by
  have hr2 := hD.1
  refine W.widen (k := mc) (n := ms) (by omega) (by omega) (vx_ret ?_)
  exact W.vret hC.1.1 hC.1.2.1 (hC.1.2.2.2.1.trans hr) (fun t ht hW => gQ_of hD ht hq) hD.2.2.1.2.2 hd hC.1.2.2.2.2.1
/-! contracts -/
def gP (D : va_G) (cy : Nat → ClassId) (al : Nat → Nat) (S : gS) (I : gI) (J : gJ) (sz : Nat) : State → Prop := fun U =>
  U.heap.size = sz ∧ gB D cy (fun _ => True) al S I J U.heap ∧ va_K D vwCl (gT cy) U ∧ gX al (va_A (gW cy al S I J) sz) U U.heap ∧ (∀ w ∈ NW, va_Nw w U)
def rmD (d mc ms : Nat) : Room := { frames := d, cells := mc, slots := ms, locals := d * 64 }
/-- the method y, called with the values As over the heap S I J, in a room of d frames, making mc cells of ms slots at most, ends with Q -/
def Ct (y : MethodName) (ws : List Cond) (d mc ms : Nat) (As : List Value) (S : gS) (I : gI) (J : gJ) (Q : gO → gS → gI → gJ → Prop) : Prop :=
  ∀ (l : Launch) (al : Nat → Nat) (cy : Nat → ClassId) (D : va_G) (sz : Nat), l.stackTraces = false → wfS S → S.2.2 + mc ≤ gSB →
    vx_Met l y ws (rmD d mc ms) (va_Pc (As.map (tv al)) (gP D cy al S I J sz)) (gQ D cy (va_A (gW cy al S I J) sz) al S.2.2 (S.2.2 + mc) Q) (gXc D cy (va_A (gW cy al S I J) sz) al S.2.2 (S.2.2 + mc) Q) mc ms (va_A (gW cy al S I J) sz)
def gArgs : Nat → List Value → List (Nat × Value)
  | _, [] => []
  | i, v :: t => (i, v) :: gArgs (if v.category = 2 then i + 2 else i + 1) t
theorem gArgs_map (al : Nat → Nat) : ∀ (As : List Value) (i : Nat), lv_args i (As.map (tv al)) = (gArgs i As).map fun q => (q.1, tv al q.2)
  | [], _ => rfl
  | v :: t, i => by
    simp only [List.map_cons, gArgs, lv_args, tv_cat]
    rw [gArgs_map al t]
theorem gSl_len (al : Nat → Nat) : ∀ (As : List Value), (lg_sl (As.map (tv al))).length = (lg_sl As).length
  | [] => rfl
  | v :: t => by
    have h := gSl_len al t
    unfold lg_sl at h ⊢
    simp only [List.map_cons, List.flatMap_cons, List.length_append, tv_cat, h]
    split <;> rfl
end Rules
section Con
variable {cc : ByteArray} {nL : Nat} {ret : Option FieldType} {d mc ms : Nat} {S : gS} {I : gI} {J : gJ} {Q : gO → gS → gI → gJ → Prop} {y : MethodName} {As : List Value}
theorem gArgs_ok {n : Nat} : ∀ {As : List Value}, vokL n As → ∀ (i : Nat), ∀ q ∈ gArgs i As, vok n q.2
  | v :: t, h, i, q, hm => by
    rcases List.mem_cons.mp hm with rfl | hm
    · exact h.1
    · exact gArgs_ok h.2 _ q hm
theorem Ct.of (isI : gH) (hI : ∀ (s0 : State) (al9 : Nat → Nat) (A9 : Nat → Prop) (m0 : Method), m0.name = y.name → isI s0 al9 A9 m0) (hy : plainName y.cls = true) (hlen : (lg_sl As).length ≤ nL) (hok : vokL S.2.2 As) (k : Wp y.cls cc nL ret [] isI d mc ms 0 (gArgs 0 As) [] S I J Q) : Ct y (wsY y cc nL ret) d mc ms As S I J Q := by
  intro l al cy D sz htr hwf hsb
  refine vx_ofW (cc := cc) (maxL := nL) (ret := ret) hy rfl ?_
  intro p e s m args below meth c s₁ B hml htab hv
  obtain ⟨rfl, hsz, hB, hK, hX, hN⟩ := hv
  have hts := atoms_spec (ws := wsY y cc nL ret) B.pre
  have hown : s.vm.findClass y.cls = some m.cls := findClass_of_methodNamed B.named
  subst hsz
  rw [lg_entry_eq]
  have hl := lv_entry (As.map (tv al)) (n := nL) (by rw [gSl_len]; exact hlen)
  rw [gArgs_map] at hl
  refine k p l e _ s m _ below meth c s.heap [] 0 0 (va_A (gW cy al S I J) s.heap.size) al cy D mc ms al S.2.2 ⟨⟨B.exec, B.bytes, hml, B.returns, B.notSynchronized, ?_⟩, ⟨hown, fun w h => hts w (List.mem_cons_of_mem _ h), hN, htr⟩, ⟨Nat.le_refl _, Nat.le_refl _, Nat.le_refl _, Nat.le_refl _⟩, hK, fun q h => Or.inr h⟩ (hI s al _ meth (name_of_methodNamed B.named B.method).1) ⟨⟨by omega, by omega, Nat.le_refl _, hsb⟩, ⟨hB.1, hB.2.self⟩, va_S.rf, hX, gAg.rf, Nat.le_refl _, hwf⟩ ⟨vokP_of (gArgs_ok hok 0), trivial⟩ _ hl
  cases h : c.exceptionTable.toList with
  | nil => rfl
  | cons x t => exact absurd (htab x (by rw [h]; exact List.mem_cons_self)) id
/-- one that doesn't throw -/
theorem Ct.met {ws : List Cond} (h : Ct y ws d mc ms As S I J Q) (hx : ∀ E S' I' J', ¬ Q (.inr E) S' I' J') {l : Launch} {al : Nat → Nat} {cy : Nat → ClassId} {D : va_G} {sz : Nat} (htr : l.stackTraces = false) (hwf : wfS S) (hsb : S.2.2 + mc ≤ gSB) :
    Met l y ws (rmD d mc ms) (va_Pc (As.map (tv al)) (gP D cy al S I J sz)) (gQ D cy (va_A (gW cy al S I J) sz) al S.2.2 (S.2.2 + mc) Q) mc ms (va_A (gW cy al S I J) sz) := by
  intro p e h1 h2 h3 s m args below h4 h5 h6 h7
  obtain ⟨n, o, a1, a2, a3, a4⟩ := h l al cy D sz htr hwf hsb p e h1 h2 h3 s m args below h4 h5 h6 h7
  refine ⟨n, o, a1, a2, a3, ?_⟩
  rcases a4 with a4 | ⟨q, -, E, ce, L, ⟨⟨S', I', J', al', hq, -⟩, -⟩, -⟩
  · exact a4
  · exact absurd hq (hx E S' I' J')
end Con
section Rules2
variable {own : String} {cc : ByteArray} {nL : Nat} {ret : Option FieldType} {hh : List ExceptionTableEntry} {isI : gH} {d rc rs pc : Nat} {ls ls' : List (Nat × Value)} {st : List Value} {S : gS} {I : gI} {J : gJ} {Q : gO → gS → gI → gJ → Prop}
/-- what the outside needs at a call -/
theorem gX_warm {al : Nat → Nat} {A B : Nat → Prop} {s U : State} {H : Heap} {locs : List Loc} (hX : gX al A s s.heap) (hS : va_S A s.heap H locs) (hU : U.heap = H) (hW : s.WarmedH U.vm) (hAB : ∀ q, B q → A q) : gX al B U U.heap := by
  obtain ⟨h1, h2, h3, h4, h5, h6, h7⟩ := hX
  have hk : ∀ a : Nat, a < s.heap.size → ¬ A a → U.heap[a]? = s.heap[a]? := by rw [hU]; exact hS.2.1
  exact ⟨fun i q hq => vk_R.warm hW (h1 i q hq), ((h2.kept hk).moved hW.alike).narrow hAB, (vx_Zq.moved hW.alike (h3.kept hk)).narrow hAB, (vx_Zq.moved hW.alike (h4.kept hk)).narrow hAB, va_AO.moved hW.alike h5, ((h6.kept hk).moved hW.alike).narrow hAB, h7.elim (fun h => Or.inl (((h.kept hk).moved hW.alike).narrow hAB)) (fun h => Or.inr (((h.kept hk).moved hW.alike).narrow hAB))⟩
theorem NW_warm {s U : State} (hW : s.WarmedH U.vm) (h : ∀ w ∈ NW, va_Nw w s) : ∀ w ∈ NW, va_Nw w U := by
  intro w hw
  have h1 := h w hw
  have h2 := (List.mem_filter.mp hw).2
  cases w <;> simp [isNest] at h2
  all_goals first | exact va_Nw.warmF hW h1 | exact va_Nw.warmM hW h1 | exact va_tabs rfl (rfl : (s.setVm U.vm).vm = U.vm) (Cond.before_shiftedFace (args := #[]) (State.Shifted.of_warmed hW) _ rfl h1)
theorem gP_blind {D : va_G} {cy : Nat → ClassId} {al : Nat → Nat} {sz : Nat} {av : List Value} : FrameBlind (va_Pc av (gP D cy al S I J sz)) := by
  intro a U g mk q
  obtain ⟨q0, q1, qB, qK, qX, qN⟩ := q
  have hv : (U.calling g mk a).vm = U.vm := rfl
  have hW : U.WarmedH (U.calling g mk a).vm := State.WarmedH.refl U
  refine ⟨q0, q1, qB, va_K.moved (u := U) (U := U.calling g mk a) (Vm.Alike.refl U.vm) qK, ?_, NW_warm hW qN⟩
  exact gX_warm (H := U.heap) (locs := []) qX va_S.rf rfl hW (fun _ h => h)
theorem gP_at {rc rs : Nat} {l : Launch} {p : Program} {R : Room} {s : State} {m : MethodId} {args : Array Value} {meth : Method} {c : Code} {H : Heap} {locs : List Loc} {cells slots : Nat} {A : Nat → Prop} {al : Nat → Nat} {cy : Nat → ClassId} {D : va_G} {mc ms : Nat} {al0 : Nat → Nat} {n0 : Nat}
    (hC : Cs own cc nL ret hh d p l R s m args meth c A cy D mc ms) (hD : Cd rc rs S I J s H locs cells slots A al cy D mc ms al0 n0) {U : State} (hU : U.heap = H) (hW : s.WarmedH U.vm) : gP D cy al S I J H.size U := by
  refine ⟨by rw [hU], ⟨by rw [hU]; exact hD.2.1.1, hD.2.1.2.weaken fun _ _ _ _ => trivial⟩, va_K.moved hW.alike hC.2.2.2.1, gX_warm hD.2.2.2.1 hD.2.2.1 hU hW ?_, NW_warm hW hC.2.1.2.2.1⟩
  intro q h
  rcases h with ⟨k, e, h⟩ | h
  · exact hD.2.1.2.2 k (q, e) h
  · exact hC.2.2.2.2 q (Nat.le_trans hD.2.2.1.1 h)
theorem gFree {rc rs : Nat} {l : Launch} {p : Program} {R : Room} {s : State} {m : MethodId} {args : Array Value} {meth : Method} {c : Code} {H : Heap} {locs : List Loc} {cells slots : Nat} {A : Nat → Prop} {al : Nat → Nat} {cy : Nat → ClassId} {D : va_G} {mc ms : Nat} {al0 : Nat → Nat} {n0 : Nat}
    (hC : Cs own cc nL ret hh d p l R s m args meth c A cy D mc ms) (hD : Cd rc rs S I J s H locs cells slots A al cy D mc ms al0 n0) : ∀ q, va_A (gW cy al S I J) H.size q → A q := by
  intro q h
  rcases h with ⟨k, e, h⟩ | h
  · exact hD.2.1.2.2 k (q, e) h
  · exact hC.2.2.2.2 q (Nat.le_trans hD.2.2.1.1 h)
/-- behind a call -/
theorem Cd_back {rc rs mc' ms' : Nat} {l : Launch} {p : Program} {R : Room} {s : State} {m : MethodId} {args : Array Value} {meth : Method} {c : Code} {H H1 : Heap} {locs locs1 : List Loc} {cells slots : Nat} {A : Nat → Prop} {al al1 : Nat → Nat} {cy : Nat → ClassId} {D : va_G} {mc ms : Nat} {al0 : Nat → Nat} {n0 : Nat} {S1 : gS} {I1 : gI} {J1 : gJ}
    (hC : Cs own cc nL ret hh d p l R s m args meth c A cy D mc ms) (hD : Cd (rc + mc') (rs + ms') S I J s H locs cells slots A al cy D mc ms al0 n0) (hB : gB D cy (va_A (gW cy al S I J) H.size) al1 S1 I1 J1 H1) (hg : gAg S.2.2 al al1) (hn : S.2.2 ≤ S1.2.2) (hn2 : S1.2.2 ≤ S.2.2 + mc') (hwf : wfS S1) (hS1 : va_S A s.heap H1 locs1) :
    Cd rc rs S1 I1 J1 s H1 locs1 (cells + mc') (slots + ms') A al1 cy D mc ms al0 n0 := by
  have h1 := hD.1
  have hX := hD.2.2.2.1
  refine ⟨⟨by omega, by omega, by omega, by omega⟩, ⟨hB.1, hB.2.weaken fun k q _ h => gFree hC hD q.1 h⟩, hS1, ?_, hD.2.2.2.2.1.trans hg hD.2.2.2.2.2.1, Nat.le_trans hD.2.2.2.2.2.1 hn, hwf⟩
  exact gX_al (fun k hk => hg k (Or.inr hk)) hX
def LkB (y : MethodName) (cc' : ByteArray) (nL' : Nat) (ret' : Option FieldType) (n : Nat) : Prop :=
  Cond.code y cc' nL' ret' ∈ LW ∧ Cond.initialized y.cls ∈ LW ∧ (y.cls ≠ "java/lang/invoke/MethodHandle" ∧ y.cls ≠ "java/lang/invoke/VarHandle" ∧ (parseMethodDescriptor y.desc).map (fun d => d.parameters.length) = some n) ∧ nL' ≤ 45
theorem vok_ret {n : Nat} {v : Option Value} {rest : List Value} (h : ∀ w ∈ v.toList, vok n w) (hr : vokL n rest) : vokL n (v.toList ++ rest) := vokL_of fun w hm => (List.mem_append.mp hm).elim (h w) (vokL_mem hr w)
/-- what a call leaves to be done -/
theorem wp_of_vxRun {mc' ms' : Nat} {a9 : Array Value} {stk rest : List Value} {Q' : gO → gS → gI → gJ → Prop} {l : Launch} {p : Program} {e : Env} {R : Room} {s : State} {m : MethodId} {args : Array Value} {below : List Frame} {meth : Method} {c : Code} {H : Heap} {locs : List Loc} {cells slots : Nat} {A : Nat → Prop} {al : Nat → Nat} {cy : Nat → ClassId} {D : va_G} {mc ms : Nat} {al0 : Nat → Nat} {n0 : Nat} {lsr : Array Slot}
    (hC : Cs own cc nL ret hh d p l R s m args meth c A cy D mc ms) (hi : isI s al0 A meth) (hD : Cd (rc + mc') (rs + ms') S I J s H locs cells slots A al cy D mc ms al0 n0) (hl : lv_has lsr nL (ls.map fun q => (q.1, tv al q.2))) (hv : vokP S.2.2 ls ∧ vokL S.2.2 rest)
    (hr : vx_Run p l e R s m args below meth c H locs cells slots mc' ms' (F0 m pc lsr stk) (rest.map (tv al)) (gQ D cy (va_A (gW cy al S I J) H.size) al S.2.2 (S.2.2 + mc') Q' a9) (gXc D cy (va_A (gW cy al S I J) H.size) al S.2.2 (S.2.2 + mc') Q') (va_A (gW cy al S I J) H.size))
    (hx : ∀ E S' I' J', Q' (.inr E) S' I' J' → hh = [] ∧ Q (.inr E) S' I' J') (hok9 : ∀ v S' I' J', Q' (.inl v) S' I' J' → ∀ w ∈ v.toList, vok S'.2.2 w)
    (kk : ∀ v S' I' J', Q' (.inl v) S' I' J' → S.2.2 ≤ S'.2.2 → Wp own cc nL ret hh isI d rc rs (pc + 3) ls (v.toList ++ rest) S' I' J' Q) :
    W p l e R s m args below meth c H locs cells slots (vx_MQ below (gQ D cy A al0 n0 (n0 + mc) Q) (gXc D cy A al0 n0 (n0 + mc) Q) args s mc ms A) (F0 m pc lsr stk) := by
  have hlt : S.2.2 ≤ gSB := by have := hD.1; omega
  have hv0 := hv
  have hvk : ∀ {al1 : Nat → Nat} {v : Value}, gAg S.2.2 al al1 → vok S.2.2 v → tv al1 v = tv al v := by
    intro al1 v hg hv
    cases v with
    | ref r => exact congrArg Value.ref (hg r hv)
    | _ => rfl
  have hls : ∀ {al1 : Nat → Nat}, gAg S.2.2 al al1 → (ls.map fun q => (q.1, tv al1 q.2)) = ls.map fun q => (q.1, tv al q.2) := fun hg => List.map_congr_left fun q hq => by rw [hvk hg (vokP_mem hv.1 q hq)]
  intro T hT X
  rcases hr T hT X with ⟨v, st₀, t, T', L, h0, X', hL, e1, e2, ⟨⟨v9, S1, I1, J1, al1, hv, hq, hB, hg, hn1, hwf, hn2⟩, hF⟩, stp⟩ | ⟨q, st₀, t, T', L, E, ce, h0, X', hL, e1, e2, ⟨⟨S1, I1, J1, al1, hq, hB, hg, hn1, hwf, hn2⟩, hF⟩, hce, hcv, hcl, stp⟩
  · cases hv
    obtain ⟨k1, k2, k3⟩ := vx_keep (A1 := va_A (gW cy al S I J) H.size) h0 e1 hD.2.2.1 (fun q _ h => gFree hC hD q h) (gFree hC hD) hL hF
    have K := kk v9 S1 I1 J1 hq hn1 p l e R s m args below meth c T'.heap (locs ++ L) (cells + mc') (slots + ms') A al1 cy D mc ms al0 n0 hC hi (Cd_back hC hD (by rw [e1]; exact hB) hg hn1 hn2 hwf k3) ⟨vokP_mono hn1 hv0.1, vok_ret (hok9 v9 S1 I1 J1 hq) (vokL_mono hn1 hv0.2)⟩ lsr (by rw [hls hg]; exact hl)
    rw [List.map_append] at K
    have e5 : rest.map (tv al1) = rest.map (tv al) := List.map_congr_left fun v hv => hvk hg (vokL_mem hv0.2 v hv)
    rw [e5] at K
    have e6 : v9.toList.map (tv al1) = (v9.map (tv al1)).toList := by cases v9 <;> rfl
    rw [e6] at K
    obtain ⟨t2, a1, b1⟩ := K T' rfl X'
    exact ⟨t2, stp t2 a1, b1⟩
  · obtain ⟨k1, k2, k3⟩ := vx_keep (A1 := va_A (gW cy al S I J) H.size) h0 e1 hD.2.2.1 (fun q _ h => gFree hC hD q h) (gFree hC hD) hL hF
    obtain ⟨hh0, hq2⟩ := hx E S1 I1 J1 hq
    have hD2 := Cd_back hC hD (by rw [e1]; exact hB) hg hn1 hn2 hwf k3
    have hr2 := hD2.1
    have K : vx_W p l e R s m args below meth c T'.heap (locs ++ L) (cells + mc') (slots + ms') (vx_MQ below (gQ D cy A al0 n0 (n0 + mc) Q) (gXc D cy A al0 n0 (n0 + mc) Q) args s mc ms A) (F0 m pc lsr (rest.map (tv al))) q :=
      vx_out (by rw [hC.1.2.2.2.2.2, hh0]; intro x hx; cases hx) hC.1.2.2.2.2.1 (by rw [e1]; exact hce) hcv hcl (fun t ht _ => ⟨⟨S1, I1, J1, al1, hq2, by rw [ht]; exact hD2.2.1, hD2.2.2.2.2.1, hD2.2.2.2.2.2.1, hwf, by omega⟩, k3.F ht⟩) k3.2.2 (by omega) (by omega)
    obtain ⟨t2, a1, b1⟩ := K T' rfl X'
    exact ⟨t2, stp.trans a1, b1⟩
theorem vaRun_vx {l : Launch} {p : Program} {e : Env} {R : Room} {s : State} {m : MethodId} {args : Array Value} {below : List Frame} {meth : Method} {c : Code} {H : Heap} {locs : List Loc} {cells slots mc' ms' : Nat} {g : JFrame} {rest : List Value} {Qa : State → Outcome → State → Prop} {XC : String → State → State → Prop} {free : Addr → Prop}
    (h : va_Run p l e R s m args below meth c H locs cells slots mc' ms' g rest Qa free) : vx_Run p l e R s m args below meth c H locs cells slots mc' ms' g rest Qa XC free := fun T hT X => Or.inl (h T hT X)
theorem rmD_ok {nL' d' mc' ms' : Nat} {p : Program} {l : Launch} {R : Room} {s : State} {m : MethodId} {args : Array Value} {meth : Method} {c : Code} {A : Nat → Prop} {cy : Nat → ClassId} {D : va_G} {mc ms : Nat} (hC : Cs own cc nL ret hh d p l R s m args meth c A cy D mc ms) (hdd : d' + 1 ≤ d) (hnl : nL' ≤ 45) : (rmD d' mc' ms').frames + 1 ≤ R.frames ∧ 8 + (nL' + 11) + (rmD d' mc' ms').locals ≤ R.locals := by
  have h := hC.2.2.1
  constructor
  · show d' + 1 ≤ R.frames
    omega
  · show 8 + (nL' + 11) + d' * 64 ≤ R.locals
    have : (d' + 1) * 64 ≤ d * 64 := Nat.mul_le_mul_right 64 hdd
    omega
/-- a call of a method that is found by its class: of this class, or a public one -/
theorem wp_callV {y : MethodName} {cc' : ByteArray} {nL' : Nat} {ret' : Option FieldType} {T0 : u_T} {n ci N0 idx b n9 d' mc' ms' : Nat} {As stk rest : List Value} {Q' : gO → gS → gI → gJ → Prop}
    (hd : decode cc pc = .ok (.invokevirtual idx, 3)) (hB : LkB y cc' nL' ret' n) (hlink : Cond.methodLink own idx y ∈ LW) (hinst : Cond.instanceMethod y ∈ LW) (hsel : Cond.selects y.cls y y ∈ LW) (hci : vwCl[ci]? = some (y.cls, T0, N0))
    (hCt : Ct y (wsY y cc' nL' ret') d' mc' ms' (.ref b :: As) S I J Q') (hstk : stk = As.reverse ++ .ref b :: rest) (hlen : As.length = n) (hdd : d' + 1 ≤ d) (hk : S.1 b = (ci + 5, n9)) (hn : b < S.2.2) (hroom : (rest.map fun v => v.category).sum ≤ 8)
    (hx : ∀ E S' I' J', Q' (.inr E) S' I' J' → hh = [] ∧ Q (.inr E) S' I' J') (hok9 : ∀ v S' I' J', Q' (.inl v) S' I' J' → ∀ w ∈ v.toList, vok S'.2.2 w)
    (kk : ∀ v S' I' J', Q' (.inl v) S' I' J' → S.2.2 ≤ S'.2.2 → Wp own cc nL ret hh isI d rc rs (pc + 3) ls (v.toList ++ rest) S' I' J' Q) : Wp own cc nL ret hh isI d (rc + mc') (rs + ms') pc ls stk S I J Q := fun p l e R s m args below meth c H locs cells slots A al cy D mc ms al0 n0 hC hi hD hv lsr hl => by
  have hw := hC.2.1.2.1
  have hr2 := hD.1
  have he := gW_at (cy := cy) (al := al) (I := I) (J := J) hn
  rw [gE_obj hk] at he
  have hM := hCt l al cy D H.size hC.2.1.2.2.2 hD.2.2.2.2.2.2 (by omega)
  refine wp_of_vxRun (a9 := (Value.ref (al b) :: As.map (tv al)).toArray) (Q' := Q') hC hi hD hl ⟨hv.1, (vokL_app (a := As.reverse) (b := .ref b :: rest) (hstk ▸ hv.2)).2⟩ ?_ hx hok9 kk
  refine vx_runV (Ts := LW) (nL := nL) (As := As.map (tv al)) (b := al b) (C := y.cls) (n := n) ⟨hC.1.1, hC.1.2.1, hC.1.2.2.1, hC.2.1.1, hw⟩ hM ⟨callB_of n hw (good_wsY hB.1) rfl rfl rfl (hw _ hB.2.1) (hw _ hlink) hB.2.2.1 (rmD_ok hC hdd hB.2.2.2), hw _ hinst, hw _ hsel⟩ ⟨gP_blind, va_recv hC.2.2.2.1 hD.2.1.1 hci he, fun U hU hW => ⟨rfl, gP_at hC hD hU hW⟩⟩ rfl (by rw [List.length_map]; exact hlen) hl.1 ?_ ?_ hd ⟨by have := hC.2.2.1; omega, by have := hC.2.2.1; omega⟩
  · show List.map (tv al) stk = _
    rw [hstk, List.map_append, List.map_cons, List.map_reverse]
    rfl
  · show 2 * 0 + _ ≤ 8
    rw [cat_sum]
    omega
theorem wp_callS {y : MethodName} {cc' : ByteArray} {nL' : Nat} {ret' : Option FieldType} {n idx d' mc' ms' : Nat} {As stk rest : List Value} {Q' : gO → gS → gI → gJ → Prop}
    (hd : decode cc pc = .ok (.invokestatic idx, 3)) (hB : LkB y cc' nL' ret' n) (hlink : Cond.methodLink own idx y ∈ LW) (hstat : Cond.static y ∈ LW)
    (hCt : Ct y (wsY y cc' nL' ret') d' mc' ms' As S I J Q') (hstk : stk = As.reverse ++ rest) (hlen : As.length = n) (hdd : d' + 1 ≤ d) (hroom : (rest.map fun v => v.category).sum ≤ 8)
    (hx : ∀ E S' I' J', Q' (.inr E) S' I' J' → hh = [] ∧ Q (.inr E) S' I' J') (hok9 : ∀ v S' I' J', Q' (.inl v) S' I' J' → ∀ w ∈ v.toList, vok S'.2.2 w)
    (kk : ∀ v S' I' J', Q' (.inl v) S' I' J' → S.2.2 ≤ S'.2.2 → Wp own cc nL ret hh isI d rc rs (pc + 3) ls (v.toList ++ rest) S' I' J' Q) : Wp own cc nL ret hh isI d (rc + mc') (rs + ms') pc ls stk S I J Q := fun p l e R s m args below meth c H locs cells slots A al cy D mc ms al0 n0 hC hi hD hv lsr hl => by
  have hw := hC.2.1.2.1
  have hr2 := hD.1
  have hM := hCt l al cy D H.size hC.2.1.2.2.2 hD.2.2.2.2.2.2 (by omega)
  refine wp_of_vxRun (a9 := (As.map (tv al)).toArray) (Q' := Q') hC hi hD hl ⟨hv.1, vokL_app (a := As.reverse) (b := rest) (hstk ▸ hv.2)⟩ ?_ hx hok9 kk
  refine vx_runS (Ts := LW) (nL := nL) (As := As.map (tv al)) (n := n) ⟨hC.1.1, hC.1.2.1, hC.1.2.2.1, hC.2.1.1, hw⟩ hM ⟨callB_of n hw (good_wsY hB.1) rfl rfl rfl (hw _ hB.2.1) (hw _ hlink) hB.2.2.1 (rmD_ok hC hdd hB.2.2.2), hw _ hstat⟩ ⟨gP_blind, fun U hU hW => ⟨rfl, gP_at hC hD hU hW⟩⟩ rfl (by rw [List.length_map]; exact hlen) hl.1 ?_ ?_ hd ⟨by have := hC.2.2.1; omega, by have := hC.2.2.1; omega⟩
  · show List.map (tv al) stk = _
    rw [hstk, List.map_append, List.map_reverse]
  · show 2 * 0 + _ ≤ 8
    rw [cat_sum]
    omega
theorem wp_callVN {y : MethodName} {cc' : ByteArray} {nL' : Nat} {ret' : Option FieldType} {host : String} {T0 : u_T} {n ci N0 idx b n9 d' mc' ms' : Nat} {As stk rest : List Value} {Q' : gO → gS → gI → gJ → Prop}
    (hd : decode cc pc = .ok (.invokevirtual idx, 3)) (hB : LkB y cc' nL' ret' n) (hlink : Cond.methodLinkNest own idx y host ∈ NW) (hinst : Cond.instanceMethod y ∈ LW) (hsel : Cond.selects y.cls y y ∈ LW) (hci : vwCl[ci]? = some (y.cls, T0, N0))
    (hCt : Ct y (wsY y cc' nL' ret') d' mc' ms' (.ref b :: As) S I J Q') (hstk : stk = As.reverse ++ .ref b :: rest) (hlen : As.length = n) (hdd : d' + 1 ≤ d) (hk : S.1 b = (ci + 5, n9)) (hn : b < S.2.2) (hroom : (rest.map fun v => v.category).sum ≤ 8)
    (hx : ∀ E S' I' J', ¬ Q' (.inr E) S' I' J') (hok9 : ∀ v S' I' J', Q' (.inl v) S' I' J' → ∀ w ∈ v.toList, vok S'.2.2 w)
    (kk : ∀ v S' I' J', Q' (.inl v) S' I' J' → S.2.2 ≤ S'.2.2 → Wp own cc nL ret hh isI d rc rs (pc + 3) ls (v.toList ++ rest) S' I' J' Q) : Wp own cc nL ret hh isI d (rc + mc') (rs + ms') pc ls stk S I J Q := fun p l e R s m args below meth c H locs cells slots A al cy D mc ms al0 n0 hC hi hD hv lsr hl => by
  have hw := hC.2.1.2.1
  have hr2 := hD.1
  have he := gW_at (cy := cy) (al := al) (I := I) (J := J) hn
  rw [gE_obj hk] at he
  have hM := Ct.met (al := al) (cy := cy) (D := D) (sz := H.size) hCt hx hC.2.1.2.2.2 hD.2.2.2.2.2.2 (by omega)
  refine wp_of_vxRun (a9 := (Value.ref (al b) :: As.map (tv al)).toArray) (Q' := Q') hC hi hD hl ⟨hv.1, (vokL_app (a := As.reverse) (b := .ref b :: rest) (hstk ▸ hv.2)).2⟩ (vaRun_vx ?_) (fun E S' I' J' h => absurd h (hx E S' I' J')) hok9 kk
  refine va_runVN (Ts := LW) (nL := nL) (As := As.map (tv al)) (b := al b) (C := y.cls) (n := n) (host := host) ⟨hC.1.1, hC.1.2.1, hC.1.2.2.1, hC.2.1.1, hw⟩ hM ⟨va_cnB n hw (good_wsY hB.1) rfl rfl rfl (hC.2.1.2.2.1 _ hlink) (hw _ hB.2.1) hB.2.2.1 (rmD_ok hC hdd hB.2.2.2), hw _ hinst, hw _ hsel⟩ ⟨gP_blind, va_recv hC.2.2.2.1 hD.2.1.1 hci he, fun U hU hW => ⟨rfl, gP_at hC hD hU hW⟩⟩ rfl (by rw [List.length_map]; exact hlen) hl.1 ?_ ?_ hd ⟨by have := hC.2.2.1; omega, by have := hC.2.2.1; omega⟩
  · show List.map (tv al) stk = _
    rw [hstk, List.map_append, List.map_cons, List.map_reverse]
    rfl
  · show 2 * 0 + _ ≤ 8
    rw [cat_sum]
    omega
theorem wp_callI {y : MethodName} {cc' : ByteArray} {nL' n idx b d' mc' ms' : Nat} {As stk rest : List Value} {Q' : gO → gS → gI → gJ → Prop}
    (hd : decode cc pc = .ok (.invokespecial idx, 3)) (hB : LkB y cc' nL' none n) (hlink : Cond.methodLink own idx y ∈ LW ∨ ∃ host, Cond.methodLinkNest own idx y host ∈ NW) (hinst : Cond.instanceMethod y ∈ LW) (hy1 : y.name = "<init>")
    (hCt : Ct y (wsY y cc' nL' none) d' mc' ms' (.ref b :: As) S I J Q') (hstk : stk = As.reverse ++ .ref b :: rest) (hlen : As.length = n) (hdd : d' + 1 ≤ d) (hroom : (rest.map fun v => v.category).sum ≤ 8)
    (hx : ∀ E S' I' J', ¬ Q' (.inr E) S' I' J') (hok9 : ∀ v S' I' J', Q' (.inl v) S' I' J' → ∀ w ∈ v.toList, vok S'.2.2 w)
    (kk : ∀ v S' I' J', Q' (.inl v) S' I' J' → S.2.2 ≤ S'.2.2 → Wp own cc nL ret hh isI d rc rs (pc + 3) ls (v.toList ++ rest) S' I' J' Q) : Wp own cc nL ret hh isI d (rc + mc') (rs + ms') pc ls stk S I J Q := fun p l e R s m args below meth c H locs cells slots A al cy D mc ms al0 n0 hC hi hD hv lsr hl => by
  have hw := hC.2.1.2.1
  have hr2 := hD.1
  have hM := Ct.met (al := al) (cy := cy) (D := D) (sz := H.size) hCt hx hC.2.1.2.2.2 hD.2.2.2.2.2.2 (by omega)
  refine wp_of_vxRun (a9 := (Value.ref (al b) :: As.map (tv al)).toArray) (Q' := Q') hC hi hD hl ⟨hv.1, (vokL_app (a := As.reverse) (b := .ref b :: rest) (hstk ▸ hv.2)).2⟩ (vaRun_vx ?_) (fun E S' I' J' h => absurd h (hx E S' I' J')) hok9 kk
  have h1 : List.map (tv al) stk = (As.map (tv al)).reverse ++ .ref (al b) :: rest.map (tv al) := by
    rw [hstk, List.map_append, List.map_cons, List.map_reverse]
    rfl
  have h2 : 2 * (F0 m pc lsr (List.map (tv al) stk)).monitorRoom + ((rest.map (tv al)).map fun v => v.category).sum ≤ 8 := by
    show 2 * 0 + _ ≤ 8
    rw [cat_sum]
    omega
  have h3 := hC.2.2.1
  rcases hlink with hlink | ⟨host, hlink⟩
  · exact va_runI (Ts := LW) (nL := nL) (As := As.map (tv al)) (b := al b) (n := n) ⟨hC.1.1, hC.1.2.1, hC.1.2.2.1, hC.2.1.1, hw⟩ hM ⟨callB_of n hw (good_wsY hB.1) rfl rfl rfl (hw _ hB.2.1) (hw _ hlink) hB.2.2.1 (rmD_ok hC hdd hB.2.2.2), hy1, hw _ hinst⟩ ⟨gP_blind, fun U hU hW => ⟨rfl, gP_at hC hD hU hW⟩⟩ rfl (by rw [List.length_map]; exact hlen) hl.1 h1 h2 hd ⟨by omega, by omega⟩
  · exact va_runIN (Ts := LW) (nL := nL) (As := As.map (tv al)) (b := al b) (n := n) (host := host) ⟨hC.1.1, hC.1.2.1, hC.1.2.2.1, hC.2.1.1, hw⟩ hM ⟨va_cnB n hw (good_wsY hB.1) rfl rfl rfl (hC.2.1.2.2.1 _ hlink) (hw _ hB.2.1) hB.2.2.1 (rmD_ok hC hdd hB.2.2.2), hy1, hw _ hinst⟩ ⟨gP_blind, fun U hU hW => ⟨rfl, gP_at hC hD hU hW⟩⟩ rfl (by rw [List.length_map]; exact hlen) hl.1 h1 h2 hd ⟨by omega, by omega⟩

/-- an outcome that is known -/
def qE (o0 : gO) (S1 : gS) (I1 : gI) (J1 : gJ) : gO → gS → gI → gJ → Prop := fun o S' I' J' => o = o0 ∧ S' = S1 ∧ I' = I1 ∧ J' = J1
theorem wp_pick {ks : List Nat} (hp : lv_pick ls ks = ls') (k : Wp own cc nL ret hh isI d rc rs pc ls' st S I J Q) : Wp own cc nL ret hh isI d rc rs pc ls st S I J Q := fun p l e R s m args below meth c H locs cells slots A al cy D mc ms al0 n0 hC hi hD hv lsr hl => by
  refine k p l e R s m args below meth c H locs cells slots A al cy D mc ms al0 n0 hC hi hD ⟨vokP_of fun q hq => ?_, hv.2⟩ lsr ⟨hl.1, hl.2.1, fun q hq => ?_⟩
  · rw [← hp] at hq
    obtain ⟨i, -, hi2⟩ := List.mem_filterMap.mp hq
    exact vokP_mem hv.1 q (List.mem_of_getElem? hi2)
  · obtain ⟨q0, h0, rfl⟩ := List.mem_map.mp hq
    rw [← hp] at h0
    obtain ⟨i, -, hi2⟩ := List.mem_filterMap.mp h0
    exact hl.2.2 _ (List.mem_map.mpr ⟨q0, List.mem_of_getElem? hi2, rfl⟩)
theorem wp_less {rc' rs' : Nat} (h1 : rc' ≤ rc) (h2 : rs' ≤ rs) (k : Wp own cc nL ret hh isI d rc' rs' pc ls st S I J Q) : Wp own cc nL ret hh isI d rc rs pc ls st S I J Q := fun p l e R s m args below meth c H locs cells slots A al cy D mc ms al0 n0 hC hi hD hv lsr hl => by
  have h3 := hD.1
  exact k p l e R s m args below meth c H locs cells slots A al cy D mc ms al0 n0 hC hi ⟨⟨by omega, by omega, by omega, by omega⟩, hD.2⟩ hv lsr hl
theorem wp_callVi {y : MethodName} {cc' : ByteArray} {nL' : Nat} {ret' : Option FieldType} {T0 : u_T} {n ci N0 idx b n9 d' mc' ms' : Nat} {As stk rest : List Value} {S1 : gS} {I1 : gI} {J1 : gJ} {r : Int32} (hd : decode cc pc = .ok (.invokevirtual idx, 3)) (hB : LkB y cc' nL' ret' n) (hlink : Cond.methodLink own idx y ∈ LW) (hinst : Cond.instanceMethod y ∈ LW) (hsel : Cond.selects y.cls y y ∈ LW) (hci : vwCl[ci]? = some (y.cls, T0, N0)) (hCt : Ct y (wsY y cc' nL' ret') d' mc' ms' (.ref b :: As) S I J (qE (.inl (some (.int r))) S1 I1 J1)) (hstk : stk = As.reverse ++ .ref b :: rest) (hlen : As.length = n) (hdd : d' + 1 ≤ d) (hk : S.1 b = (ci + 5, n9)) (hn : b < S.2.2) (hroom : (rest.map fun v => v.category).sum ≤ 8)
    (kk : S.2.2 ≤ S1.2.2 → Wp own cc nL ret hh isI d rc rs (pc + 3) ls (.int r :: rest) S1 I1 J1 Q) : Wp own cc nL ret hh isI d (rc + mc') (rs + ms') pc ls stk S I J Q :=
  wp_callV hd hB hlink hinst hsel hci hCt hstk hlen hdd hk hn hroom (fun E S' I' J' h => by cases h.1) (fun v S' I' J' h w hw => by rw [Sum.inl.inj h.1] at hw; simp at hw; try (subst hw; trivial)) (fun v S' I' J' h hn9 => by obtain ⟨h1, rfl, rfl, rfl⟩ := h; cases h1; exact kk hn9)
theorem wp_callVl {y : MethodName} {cc' : ByteArray} {nL' : Nat} {ret' : Option FieldType} {T0 : u_T} {n ci N0 idx b n9 d' mc' ms' : Nat} {As stk rest : List Value} {S1 : gS} {I1 : gI} {J1 : gJ} {r : Int64} (hd : decode cc pc = .ok (.invokevirtual idx, 3)) (hB : LkB y cc' nL' ret' n) (hlink : Cond.methodLink own idx y ∈ LW) (hinst : Cond.instanceMethod y ∈ LW) (hsel : Cond.selects y.cls y y ∈ LW) (hci : vwCl[ci]? = some (y.cls, T0, N0)) (hCt : Ct y (wsY y cc' nL' ret') d' mc' ms' (.ref b :: As) S I J (qE (.inl (some (.long r))) S1 I1 J1)) (hstk : stk = As.reverse ++ .ref b :: rest) (hlen : As.length = n) (hdd : d' + 1 ≤ d) (hk : S.1 b = (ci + 5, n9)) (hn : b < S.2.2) (hroom : (rest.map fun v => v.category).sum ≤ 8)
    (kk : S.2.2 ≤ S1.2.2 → Wp own cc nL ret hh isI d rc rs (pc + 3) ls (.long r :: rest) S1 I1 J1 Q) : Wp own cc nL ret hh isI d (rc + mc') (rs + ms') pc ls stk S I J Q :=
  wp_callV hd hB hlink hinst hsel hci hCt hstk hlen hdd hk hn hroom (fun E S' I' J' h => by cases h.1) (fun v S' I' J' h w hw => by rw [Sum.inl.inj h.1] at hw; simp at hw; try (subst hw; trivial)) (fun v S' I' J' h hn9 => by obtain ⟨h1, rfl, rfl, rfl⟩ := h; cases h1; exact kk hn9)
theorem wp_callVv {y : MethodName} {cc' : ByteArray} {nL' : Nat} {ret' : Option FieldType} {T0 : u_T} {n ci N0 idx b n9 d' mc' ms' : Nat} {As stk rest : List Value} {S1 : gS} {I1 : gI} {J1 : gJ}  (hd : decode cc pc = .ok (.invokevirtual idx, 3)) (hB : LkB y cc' nL' ret' n) (hlink : Cond.methodLink own idx y ∈ LW) (hinst : Cond.instanceMethod y ∈ LW) (hsel : Cond.selects y.cls y y ∈ LW) (hci : vwCl[ci]? = some (y.cls, T0, N0)) (hCt : Ct y (wsY y cc' nL' ret') d' mc' ms' (.ref b :: As) S I J (qE (.inl none) S1 I1 J1)) (hstk : stk = As.reverse ++ .ref b :: rest) (hlen : As.length = n) (hdd : d' + 1 ≤ d) (hk : S.1 b = (ci + 5, n9)) (hn : b < S.2.2) (hroom : (rest.map fun v => v.category).sum ≤ 8)
    (kk : S.2.2 ≤ S1.2.2 → Wp own cc nL ret hh isI d rc rs (pc + 3) ls rest S1 I1 J1 Q) : Wp own cc nL ret hh isI d (rc + mc') (rs + ms') pc ls stk S I J Q :=
  wp_callV hd hB hlink hinst hsel hci hCt hstk hlen hdd hk hn hroom (fun E S' I' J' h => by cases h.1) (fun v S' I' J' h w hw => by rw [Sum.inl.inj h.1] at hw; simp at hw; try (subst hw; trivial)) (fun v S' I' J' h hn9 => by obtain ⟨h1, rfl, rfl, rfl⟩ := h; cases h1; exact kk hn9)
theorem wp_callVx {y : MethodName} {cc' : ByteArray} {nL' : Nat} {ret' : Option FieldType} {T0 : u_T} {n ci N0 idx b n9 d' mc' ms' : Nat} {As stk rest : List Value} {S1 : gS} {I1 : gI} {J1 : gJ} {E : String} (hd : decode cc pc = .ok (.invokevirtual idx, 3)) (hB : LkB y cc' nL' ret' n) (hlink : Cond.methodLink own idx y ∈ LW) (hinst : Cond.instanceMethod y ∈ LW) (hsel : Cond.selects y.cls y y ∈ LW) (hci : vwCl[ci]? = some (y.cls, T0, N0)) (hCt : Ct y (wsY y cc' nL' ret') d' mc' ms' (.ref b :: As) S I J (qE (.inr E) S1 I1 J1)) (hstk : stk = As.reverse ++ .ref b :: rest) (hlen : As.length = n) (hdd : d' + 1 ≤ d) (hk : S.1 b = (ci + 5, n9)) (hn : b < S.2.2) (hroom : (rest.map fun v => v.category).sum ≤ 8) (h0 : hh = []) (hq : Q (.inr E) S1 I1 J1) : Wp own cc nL ret hh isI d (rc + mc') (rs + ms') pc ls stk S I J Q :=
  wp_callV hd hB hlink hinst hsel hci hCt hstk hlen hdd hk hn hroom (fun E' S' I' J' h => by obtain ⟨h1, rfl, rfl, rfl⟩ := h; cases h1; exact ⟨h0, hq⟩) (fun v S' I' J' h => by cases h.1) (fun v S' I' J' h => by cases h.1)
theorem wp_callVNi {y : MethodName} {cc' : ByteArray} {nL' : Nat} {ret' : Option FieldType} {host : String} {T0 : u_T} {n ci N0 idx b n9 d' mc' ms' : Nat} {As stk rest : List Value} {S1 : gS} {I1 : gI} {J1 : gJ} {r : Int32} (hd : decode cc pc = .ok (.invokevirtual idx, 3)) (hB : LkB y cc' nL' ret' n) (hlink : Cond.methodLinkNest own idx y host ∈ NW) (hinst : Cond.instanceMethod y ∈ LW) (hsel : Cond.selects y.cls y y ∈ LW) (hci : vwCl[ci]? = some (y.cls, T0, N0)) (hCt : Ct y (wsY y cc' nL' ret') d' mc' ms' (.ref b :: As) S I J (qE (.inl (some (.int r))) S1 I1 J1)) (hstk : stk = As.reverse ++ .ref b :: rest) (hlen : As.length = n) (hdd : d' + 1 ≤ d) (hk : S.1 b = (ci + 5, n9)) (hn : b < S.2.2) (hroom : (rest.map fun v => v.category).sum ≤ 8)
    (kk : S.2.2 ≤ S1.2.2 → Wp own cc nL ret hh isI d rc rs (pc + 3) ls (.int r :: rest) S1 I1 J1 Q) : Wp own cc nL ret hh isI d (rc + mc') (rs + ms') pc ls stk S I J Q :=
  wp_callVN hd hB hlink hinst hsel hci hCt hstk hlen hdd hk hn hroom (fun E S' I' J' h => by cases h.1) (fun v S' I' J' h w hw => by rw [Sum.inl.inj h.1] at hw; simp at hw; try (subst hw; trivial)) (fun v S' I' J' h hn9 => by obtain ⟨h1, rfl, rfl, rfl⟩ := h; cases h1; exact kk hn9)
theorem wp_callVNl {y : MethodName} {cc' : ByteArray} {nL' : Nat} {ret' : Option FieldType} {host : String} {T0 : u_T} {n ci N0 idx b n9 d' mc' ms' : Nat} {As stk rest : List Value} {S1 : gS} {I1 : gI} {J1 : gJ} {r : Int64} (hd : decode cc pc = .ok (.invokevirtual idx, 3)) (hB : LkB y cc' nL' ret' n) (hlink : Cond.methodLinkNest own idx y host ∈ NW) (hinst : Cond.instanceMethod y ∈ LW) (hsel : Cond.selects y.cls y y ∈ LW) (hci : vwCl[ci]? = some (y.cls, T0, N0)) (hCt : Ct y (wsY y cc' nL' ret') d' mc' ms' (.ref b :: As) S I J (qE (.inl (some (.long r))) S1 I1 J1)) (hstk : stk = As.reverse ++ .ref b :: rest) (hlen : As.length = n) (hdd : d' + 1 ≤ d) (hk : S.1 b = (ci + 5, n9)) (hn : b < S.2.2) (hroom : (rest.map fun v => v.category).sum ≤ 8)
    (kk : S.2.2 ≤ S1.2.2 → Wp own cc nL ret hh isI d rc rs (pc + 3) ls (.long r :: rest) S1 I1 J1 Q) : Wp own cc nL ret hh isI d (rc + mc') (rs + ms') pc ls stk S I J Q :=
  wp_callVN hd hB hlink hinst hsel hci hCt hstk hlen hdd hk hn hroom (fun E S' I' J' h => by cases h.1) (fun v S' I' J' h w hw => by rw [Sum.inl.inj h.1] at hw; simp at hw; try (subst hw; trivial)) (fun v S' I' J' h hn9 => by obtain ⟨h1, rfl, rfl, rfl⟩ := h; cases h1; exact kk hn9)
theorem wp_callVNv {y : MethodName} {cc' : ByteArray} {nL' : Nat} {ret' : Option FieldType} {host : String} {T0 : u_T} {n ci N0 idx b n9 d' mc' ms' : Nat} {As stk rest : List Value} {S1 : gS} {I1 : gI} {J1 : gJ}  (hd : decode cc pc = .ok (.invokevirtual idx, 3)) (hB : LkB y cc' nL' ret' n) (hlink : Cond.methodLinkNest own idx y host ∈ NW) (hinst : Cond.instanceMethod y ∈ LW) (hsel : Cond.selects y.cls y y ∈ LW) (hci : vwCl[ci]? = some (y.cls, T0, N0)) (hCt : Ct y (wsY y cc' nL' ret') d' mc' ms' (.ref b :: As) S I J (qE (.inl none) S1 I1 J1)) (hstk : stk = As.reverse ++ .ref b :: rest) (hlen : As.length = n) (hdd : d' + 1 ≤ d) (hk : S.1 b = (ci + 5, n9)) (hn : b < S.2.2) (hroom : (rest.map fun v => v.category).sum ≤ 8)
    (kk : S.2.2 ≤ S1.2.2 → Wp own cc nL ret hh isI d rc rs (pc + 3) ls rest S1 I1 J1 Q) : Wp own cc nL ret hh isI d (rc + mc') (rs + ms') pc ls stk S I J Q :=
  wp_callVN hd hB hlink hinst hsel hci hCt hstk hlen hdd hk hn hroom (fun E S' I' J' h => by cases h.1) (fun v S' I' J' h w hw => by rw [Sum.inl.inj h.1] at hw; simp at hw; try (subst hw; trivial)) (fun v S' I' J' h hn9 => by obtain ⟨h1, rfl, rfl, rfl⟩ := h; cases h1; exact kk hn9)
theorem wp_callSi {y : MethodName} {cc' : ByteArray} {nL' : Nat} {ret' : Option FieldType} {n idx d' mc' ms' : Nat} {As stk rest : List Value} {S1 : gS} {I1 : gI} {J1 : gJ} {r : Int32} (hd : decode cc pc = .ok (.invokestatic idx, 3)) (hB : LkB y cc' nL' ret' n) (hlink : Cond.methodLink own idx y ∈ LW) (hstat : Cond.static y ∈ LW) (hCt : Ct y (wsY y cc' nL' ret') d' mc' ms' As S I J (qE (.inl (some (.int r))) S1 I1 J1)) (hstk : stk = As.reverse ++ rest) (hlen : As.length = n) (hdd : d' + 1 ≤ d) (hroom : (rest.map fun v => v.category).sum ≤ 8)
    (kk : S.2.2 ≤ S1.2.2 → Wp own cc nL ret hh isI d rc rs (pc + 3) ls (.int r :: rest) S1 I1 J1 Q) : Wp own cc nL ret hh isI d (rc + mc') (rs + ms') pc ls stk S I J Q :=
  wp_callS hd hB hlink hstat hCt hstk hlen hdd hroom (fun E S' I' J' h => by cases h.1) (fun v S' I' J' h w hw => by rw [Sum.inl.inj h.1] at hw; simp at hw; try (subst hw; trivial)) (fun v S' I' J' h hn9 => by obtain ⟨h1, rfl, rfl, rfl⟩ := h; cases h1; exact kk hn9)
theorem wp_callSl {y : MethodName} {cc' : ByteArray} {nL' : Nat} {ret' : Option FieldType} {n idx d' mc' ms' : Nat} {As stk rest : List Value} {S1 : gS} {I1 : gI} {J1 : gJ} {r : Int64} (hd : decode cc pc = .ok (.invokestatic idx, 3)) (hB : LkB y cc' nL' ret' n) (hlink : Cond.methodLink own idx y ∈ LW) (hstat : Cond.static y ∈ LW) (hCt : Ct y (wsY y cc' nL' ret') d' mc' ms' As S I J (qE (.inl (some (.long r))) S1 I1 J1)) (hstk : stk = As.reverse ++ rest) (hlen : As.length = n) (hdd : d' + 1 ≤ d) (hroom : (rest.map fun v => v.category).sum ≤ 8)
    (kk : S.2.2 ≤ S1.2.2 → Wp own cc nL ret hh isI d rc rs (pc + 3) ls (.long r :: rest) S1 I1 J1 Q) : Wp own cc nL ret hh isI d (rc + mc') (rs + ms') pc ls stk S I J Q :=
  wp_callS hd hB hlink hstat hCt hstk hlen hdd hroom (fun E S' I' J' h => by cases h.1) (fun v S' I' J' h w hw => by rw [Sum.inl.inj h.1] at hw; simp at hw; try (subst hw; trivial)) (fun v S' I' J' h hn9 => by obtain ⟨h1, rfl, rfl, rfl⟩ := h; cases h1; exact kk hn9)
theorem wp_callSv {y : MethodName} {cc' : ByteArray} {nL' : Nat} {ret' : Option FieldType} {n idx d' mc' ms' : Nat} {As stk rest : List Value} {S1 : gS} {I1 : gI} {J1 : gJ}  (hd : decode cc pc = .ok (.invokestatic idx, 3)) (hB : LkB y cc' nL' ret' n) (hlink : Cond.methodLink own idx y ∈ LW) (hstat : Cond.static y ∈ LW) (hCt : Ct y (wsY y cc' nL' ret') d' mc' ms' As S I J (qE (.inl none) S1 I1 J1)) (hstk : stk = As.reverse ++ rest) (hlen : As.length = n) (hdd : d' + 1 ≤ d) (hroom : (rest.map fun v => v.category).sum ≤ 8)
    (kk : S.2.2 ≤ S1.2.2 → Wp own cc nL ret hh isI d rc rs (pc + 3) ls rest S1 I1 J1 Q) : Wp own cc nL ret hh isI d (rc + mc') (rs + ms') pc ls stk S I J Q :=
  wp_callS hd hB hlink hstat hCt hstk hlen hdd hroom (fun E S' I' J' h => by cases h.1) (fun v S' I' J' h w hw => by rw [Sum.inl.inj h.1] at hw; simp at hw; try (subst hw; trivial)) (fun v S' I' J' h hn9 => by obtain ⟨h1, rfl, rfl, rfl⟩ := h; cases h1; exact kk hn9)
theorem wp_callSx {y : MethodName} {cc' : ByteArray} {nL' : Nat} {ret' : Option FieldType} {n idx d' mc' ms' : Nat} {As stk rest : List Value} {S1 : gS} {I1 : gI} {J1 : gJ} {E : String} (hd : decode cc pc = .ok (.invokestatic idx, 3)) (hB : LkB y cc' nL' ret' n) (hlink : Cond.methodLink own idx y ∈ LW) (hstat : Cond.static y ∈ LW) (hCt : Ct y (wsY y cc' nL' ret') d' mc' ms' As S I J (qE (.inr E) S1 I1 J1)) (hstk : stk = As.reverse ++ rest) (hlen : As.length = n) (hdd : d' + 1 ≤ d) (hroom : (rest.map fun v => v.category).sum ≤ 8) (h0 : hh = []) (hq : Q (.inr E) S1 I1 J1) : Wp own cc nL ret hh isI d (rc + mc') (rs + ms') pc ls stk S I J Q :=
  wp_callS hd hB hlink hstat hCt hstk hlen hdd hroom (fun E' S' I' J' h => by obtain ⟨h1, rfl, rfl, rfl⟩ := h; cases h1; exact ⟨h0, hq⟩) (fun v S' I' J' h => by cases h.1) (fun v S' I' J' h => by cases h.1)
theorem wp_callIv {y : MethodName} {cc' : ByteArray} {nL' n idx b d' mc' ms' : Nat} {As stk rest : List Value} {S1 : gS} {I1 : gI} {J1 : gJ}  (hd : decode cc pc = .ok (.invokespecial idx, 3)) (hB : LkB y cc' nL' none n) (hlink : Cond.methodLink own idx y ∈ LW ∨ ∃ host, Cond.methodLinkNest own idx y host ∈ NW) (hinst : Cond.instanceMethod y ∈ LW) (hy1 : y.name = "<init>") (hCt : Ct y (wsY y cc' nL' none) d' mc' ms' (.ref b :: As) S I J (qE (.inl none) S1 I1 J1)) (hstk : stk = As.reverse ++ .ref b :: rest) (hlen : As.length = n) (hdd : d' + 1 ≤ d) (hroom : (rest.map fun v => v.category).sum ≤ 8)
    (kk : S.2.2 ≤ S1.2.2 → Wp own cc nL ret hh isI d rc rs (pc + 3) ls rest S1 I1 J1 Q) : Wp own cc nL ret hh isI d (rc + mc') (rs + ms') pc ls stk S I J Q :=
  wp_callI hd hB hlink hinst hy1 hCt hstk hlen hdd hroom (fun E S' I' J' h => by cases h.1) (fun v S' I' J' h w hw => by rw [Sum.inl.inj h.1] at hw; simp at hw; try (subst hw; trivial)) (fun v S' I' J' h hn9 => by obtain ⟨h1, rfl, rfl, rfl⟩ := h; cases h1; exact kk hn9)

end Rules2
