def sLen (k : Nat) : Nat := [5, 4, 6].getD k 0
def sByt (k j : Nat) : Int32 := (([[110, 111, 100, 101, 115], [108, 105, 110, 107], [116, 117, 110, 110, 101, 108]] : List (List Int32)).getD k []).getD j 0
section StrRows
variable {own : String} {cc : ByteArray} {nL : Nat} {ret : Option FieldType} {hh : List ExceptionTableEntry} {isI : gH} {d rc rs pc : Nat} {ls ls' : List (Nat × Value)} {st : List Value} {S : gS} {I : gI} {J : gJ} {Q : gO → gS → gI → gJ → Prop}
theorem wp_ldcS {is i : Nat} {tx : String} (hd : decode cc pc = .ok (.ldc is, 2)) (hs : gStr[i]? = some (own, is, tx)) (kk : Wp own cc nL ret hh isI d rc rs (pc + 2) ls (.ref (gSB + i) :: st) S I J Q) : Wp own cc nL ret hh isI d rc rs pc ls st S I J Q := fun p l e R s m args below meth c H locs cells slots A al cy D mc ms al0 n0 hC hi hD hv lsr hl =>
  va_ldcS hC.1.1 hC.1.2.1 hC.2.1.1 (hD.2.2.2.1.1 i _ hs) hd (kk p l e R s m args below meth c H locs cells slots A al cy D mc ms al0 n0 hC hi hD ⟨hv.1, Or.inr (Nat.le_add_right _ _), hv.2⟩ lsr hl)
theorem wp_svalue {k idx : Nat} (hk : k < 3) (hd : decode cc pc = .ok (.getfield idx, 3)) (hf : Cond.fieldLink own idx "java/lang/String" "value" "[B" ∈ LW) (kk : Wp own cc nL ret hh isI d rc rs (pc + 3) ls (.ref (gSB + 100 + k) :: st) S I J Q) : Wp own cc nL ret hh isI d rc rs pc ls (.ref (gSB + k) :: st) S I J Q := fun p l e R s m args below meth c H locs cells slots A al cy D mc ms al0 n0 hC hi hD hv lsr hl =>
  vk_getf hC.1.1 hC.1.2.1 (hD.2.2.2.1.2.1.1 k hk).2.2.1 hD.2.2.1 hC.2.1.1 (hC.2.1.2.1 _ hf) (fun _ h => h) hd (kk p l e R s m args below meth c H locs cells slots A al cy D mc ms al0 n0 hC hi hD ⟨hv.1, Or.inr (by omega), hv.2.2⟩ lsr hl)
theorem wp_scoder {k idx : Nat} (hk : k < 3) (hd : decode cc pc = .ok (.getfield idx, 3)) (hf : Cond.fieldLink own idx "java/lang/String" "coder" "B" ∈ LW) (kk : Wp own cc nL ret hh isI d rc rs (pc + 3) ls (.int 0 :: st) S I J Q) : Wp own cc nL ret hh isI d rc rs pc ls (.ref (gSB + k) :: st) S I J Q := fun p l e R s m args below meth c H locs cells slots A al cy D mc ms al0 n0 hC hi hD hv lsr hl =>
  vk_getf hC.1.1 hC.1.2.1 (hD.2.2.2.1.2.1.1 k hk).2.1 hD.2.2.1 hC.2.1.1 (hC.2.1.2.1 _ hf) (fun _ h => h) hd (kk p l e R s m args below meth c H locs cells slots A al cy D mc ms al0 n0 hC hi hD ⟨hv.1, trivial, hv.2.2⟩ lsr hl)
theorem wp_scompact {idx : Nat} (hd : decode cc pc = .ok (.getstatic idx, 3)) (hf : Cond.fieldLink own idx "java/lang/String" "COMPACT_STRINGS" "Z" ∈ LW) (kk : Wp own cc nL ret hh isI d rc rs (pc + 3) ls (.int 1 :: st) S I J Q) : Wp own cc nL ret hh isI d rc rs pc ls st S I J Q := fun p l e R s m args below meth c H locs cells slots A al cy D mc ms al0 n0 hC hi hD hv lsr hl =>
  va_gets hC.1.1 hC.1.2.1 hD.2.2.2.1.2.2.2.2.2.1 hD.2.2.1 hC.2.1.1 (hC.2.1.2.1 _ hf) (fun _ h => h) hd (kk p l e R s m args below meth c H locs cells slots A al cy D mc ms al0 n0 hC hi hD ⟨hv.1, trivial, hv.2⟩ lsr hl)
theorem wp_sform {idx : Nat} (hd : decode cc pc = .ok (.getstatic idx, 3)) (hf : Cond.fieldLink own idx "jdk/internal/util/Preconditions" "SIOOBE_FORMATTER" "Ljava/util/function/BiFunction;" ∈ LW) (kk : ∀ v : Value, v = .null ∨ v = .ref (gSB + 200) → Wp own cc nL ret hh isI d rc rs (pc + 3) ls (v :: st) S I J Q) : Wp own cc nL ret hh isI d rc rs pc ls st S I J Q := fun p l e R s m args below meth c H locs cells slots A al cy D mc ms al0 n0 hC hi hD hv lsr hl => by
  rcases hD.2.2.2.1.2.2.2.2.2.2 with hZ | hZ
  · exact va_gets hC.1.1 hC.1.2.1 hZ hD.2.2.1 hC.2.1.1 (hC.2.1.2.1 _ hf) (fun _ h => h) hd (kk .null (Or.inl rfl) p l e R s m args below meth c H locs cells slots A al cy D mc ms al0 n0 hC hi hD ⟨hv.1, trivial, hv.2⟩ lsr hl)
  · exact va_gets hC.1.1 hC.1.2.1 hZ hD.2.2.1 hC.2.1.1 (hC.2.1.2.1 _ hf) (fun _ h => h) hd (kk (.ref (gSB + 200)) (Or.inr rfl) p l e R s m args below meth c H locs cells slots A al cy D mc ms al0 n0 hC hi hD ⟨hv.1, Or.inr (Nat.le_add_right _ _), hv.2⟩ lsr hl)
theorem wp_salen {k : Nat} (hk : k < 3) (hd : decode cc pc = .ok (.arraylength, 1)) (kk : Wp own cc nL ret hh isI d rc rs (pc + 1) ls (.int (Int32.ofNat (sLen k)) :: st) S I J Q) : Wp own cc nL ret hh isI d rc rs pc ls (.ref (gSB + 100 + k) :: st) S I J Q := fun p l e R s m args below meth c H locs cells slots A al cy D mc ms al0 n0 hC hi hD hv lsr hl =>
  va_tlen hC.1.1 hC.1.2.1 (hD.2.2.2.1.2.1.1 k hk).2.2.2 hD.2.2.1 rfl hd (kk p l e R s m args below meth c H locs cells slots A al cy D mc ms al0 n0 hC hi hD ⟨hv.1, trivial, hv.2.2⟩ lsr hl)
theorem wp_sbald {k : Nat} {i : Int32} (hk : k < 3) (hd : decode cc pc = .ok (.baload, 1)) (hin : vp_in i (sLen k)) (kk : Wp own cc nL ret hh isI d rc rs (pc + 1) ls (.int (sByt k i.toNatClampNeg) :: st) S I J Q) : Wp own cc nL ret hh isI d rc rs pc ls (.int i :: .ref (gSB + 100 + k) :: st) S I J Q := fun p l e R s m args below meth c H locs cells slots A al cy D mc ms al0 n0 hC hi hD hv lsr hl =>
  va_tb hC.1.1 hC.1.2.1 (hD.2.2.2.1.2.1.1 k hk).2.2.2 hD.2.2.1 hin rfl hd (kk p l e R s m args below meth c H locs cells slots A al cy D mc ms al0 n0 hC hi hD ⟨hv.1, trivial, hv.2.2.2⟩ lsr hl)
theorem wp_i2c {x v : Int32} (hd : decode cc pc = .ok (.i2c, 1)) (h1 : (x.toUInt32 % 65536).toInt32 = v) (k : Wp own cc nL ret hh isI d rc rs (pc + 1) ls (.int v :: st) S I J Q) : Wp own cc nL ret hh isI d rc rs pc ls (.int x :: st) S I J Q := fun p l e R s m args below meth c H locs cells slots A al cy D mc ms al0 n0 hC hi hD hv lsr hl => lv_i2c hC.1.1 hC.1.2.1 hd h1 (k p l e R s m args below meth c H locs cells slots A al cy D mc ms al0 n0 hC hi hD ⟨hv.1, trivial, hv.2.2⟩ lsr hl)
theorem wp_nret {v : Int32} {ty : FieldType} (hd : decode cc pc = .ok (.ireturn, 1)) (hr : ret = some ty) (hz : narrow ty (.int v) = .int v) (hq : Q (.inl (some (.int v))) S I J) : Wp own cc nL ret hh isI d rc rs pc ls [.int v] S I J Q := fun p l e R s m args below meth c H locs cells slots A al cy D mc ms al0 n0 hC hi hD hv lsr hl => by
  have hr2 := hD.1
  refine W.widen (k := mc) (n := ms) (by omega) (by omega) (vx_ret ?_)
  exact W.zret (v := v) (ty := ty) hC.1.1 hC.1.2.1 (hC.1.2.2.2.1.trans hr) hz (fun t ht hW => gQ_of hD ht hq) hD.2.2.1.2.2 hd hC.1.2.2.2.2.1
theorem wp_aloadv {k9 : Fin 4} {i : Nat} {v : Value} (hd : decode cc pc = .ok (.aload_n k9, 1)) (hj : (k9 : Nat) = i) (h1 : lk ls i = some v) (hq : v = .null ∨ ∃ r, v = .ref r) (k : Wp own cc nL ret hh isI d rc rs (pc + 1) ls (v :: st) S I J Q) : Wp own cc nL ret hh isI d rc rs pc ls st S I J Q := by
  rcases hq with rfl | ⟨r, rfl⟩
  · exact fun p l e R s m args below meth c H locs cells slots A al cy D mc ms al0 n0 hC hi hD hv lsr hl => lv_aload_nN hC.1.1 hC.1.2.1 hd hj (lk_has hl h1) (k p l e R s m args below meth c H locs cells slots A al cy D mc ms al0 n0 hC hi hD ⟨hv.1, trivial, hv.2⟩ lsr hl)
  · exact wp_aload_n hd hj h1 k
/-- a call on a String constant -/
theorem wp_callStr {y : MethodName} {cc' : ByteArray} {nL' : Nat} {ret' : Option FieldType} {n idx k d' : Nat} {As stk rest : List Value} {r : Int32} (hk : k < 3) (hyc : y.cls = "java/lang/String")
    (hd : decode cc pc = .ok (.invokevirtual idx, 3)) (hB : LkB y cc' nL' ret' n) (hlink : Cond.methodLink own idx y ∈ LW) (hinst : Cond.instanceMethod y ∈ LW) (hsel : Cond.selects y.cls y y ∈ LW)
    (hCt : Ct y (wsY y cc' nL' ret') d' 0 0 (.ref (gSB + k) :: As) S I J (qE (.inl (some (.int r))) S I J)) (hstk : stk = As.reverse ++ .ref (gSB + k) :: rest) (hlen : As.length = n) (hdd : d' + 1 ≤ d) (hroom : (rest.map fun v => v.category).sum ≤ 8)
    (kk : Wp own cc nL ret hh isI d rc rs (pc + 3) ls (.int r :: rest) S I J Q) : Wp own cc nL ret hh isI d rc rs pc ls stk S I J Q := fun p l e R s m args below meth c H locs cells slots A al cy D mc ms al0 n0 hC hi hD hv lsr hl => by
  have hw := hC.2.1.2.1
  have hr2 := hD.1
  have hM := hCt l al cy D H.size hC.2.1.2.2.2 hD.2.2.2.2.2.2 (by omega)
  refine wp_of_vxRun (mc' := 0) (ms' := 0) (a9 := (Value.ref (al (gSB + k)) :: As.map (tv al)).toArray) (Q' := qE (.inl (some (.int r))) S I J) hC hi hD hl ⟨hv.1, (vokL_app (a := As.reverse) (b := .ref (gSB + k) :: rest) (hstk ▸ hv.2)).2⟩ ?_ (fun E S' I' J' h => by cases h.1) (fun v S' I' J' h w hw => by rw [Sum.inl.inj h.1] at hw; simp at hw; subst hw; trivial) (fun v S' I' J' h _ => by obtain ⟨h1, rfl, rfl, rfl⟩ := h; cases h1; exact kk)
  refine vx_runV (Ts := LW) (nL := nL) (As := As.map (tv al)) (b := al (gSB + k)) (C := y.cls) (n := n) ⟨hC.1.1, hC.1.2.1, hC.1.2.2.1, hC.2.1.1, hw⟩ hM ⟨callB_of n hw (good_wsY hB.1) rfl rfl rfl (hw _ hB.2.1) (hw _ hlink) hB.2.2.1 (rmD_ok hC hdd hB.2.2.2), hw _ hinst, hw _ hsel⟩ ⟨gP_blind, by rw [hyc]; exact vk_recv (adK := fun i => al (gSB + i)) (i := k) hD.2.2.2.1.2.1 hk hD.2.2.1, fun U hU hW => ⟨rfl, gP_at hC hD hU hW⟩⟩ rfl (by rw [List.length_map]; exact hlen) hl.1 ?_ ?_ hd ⟨by have := hC.2.2.1; omega, by have := hC.2.2.1; omega⟩
  · show List.map (tv al) stk = _
    rw [hstk, List.map_append, List.map_cons, List.map_reverse]
    rfl
  · show 2 * 0 + _ ≤ 8
    rw [cat_sum]
    omega
end StrRows
theorem sj9 : Cond.fieldLink RJ0 9 "java/lang/String" "value" "[B" ∈ LW := inLW (List.mem_of_getElem? (i := 1849) (by decide +kernel)) (by decide +kernel)
theorem sj15 : Cond.fieldLink RJ0 15 "java/lang/String" "coder" "B" ∈ LW := inLW (List.mem_of_getElem? (i := 1850) (by decide +kernel)) (by decide +kernel)
theorem sj38 : Cond.fieldLink RJ0 38 "java/lang/String" "COMPACT_STRINGS" "Z" ∈ LW := inLW (List.mem_of_getElem? (i := 675) (by decide +kernel)) (by decide +kernel)
theorem sj1053 : Cond.fieldLink RJ0 1053 "jdk/internal/util/Preconditions" "SIOOBE_FORMATTER" "Ljava/util/function/BiFunction;" ∈ LW := inLW (List.mem_of_getElem? (i := 691) (by decide +kernel)) (by decide +kernel)
theorem mlJ0_335 : Cond.methodLink RJ0 335 yJ0_coder_7d493 ∈ LW := inLW (List.mem_of_getElem? (i := 671) (by decide +kernel)) (by decide +kernel)
theorem mlJ0_492 : Cond.methodLink RJ0 492 yJ0_isLatin1_aae02 ∈ LW := inLW (List.mem_of_getElem? (i := 681) (by decide +kernel)) (by decide +kernel)
theorem mlJ0_495 : Cond.methodLink RJ0 495 yJ1_charAt_3b067 ∈ LW := inLW (List.mem_of_getElem? (i := 685) (by decide +kernel)) (by decide +kernel)
theorem mlJ0_1059 : Cond.methodLink RJ0 1059 yJ3_checkIndex_8e157 ∈ LW := inLW (List.mem_of_getElem? (i := 693) (by decide +kernel)) (by decide +kernel)
theorem mlJ1_9 : Cond.methodLink RJ1 9 yJ0_checkIndex_df160 ∈ LW := inLW (List.mem_of_getElem? (i := 688) (by decide +kernel)) (by decide +kernel)
set_option maxHeartbeats 4000000 in
set_option maxRecDepth 100000 in
theorem ct_coder (d : Nat) (hd : 0 ≤ d) {S : gS} {I : gI} {J : gJ} {k : Nat} (hk : k < 3)  : Ct yJ0_coder_7d493 (wsY yJ0_coder_7d493 cJ0_coder_7d493 1 (some .byte)) d 0 0 [.ref (gSB + k)] S I J (qE (.inl (some (.int 0))) S I J) := by
  refine Ct.of hF (fun _ _ _ _ _ => trivial) (by decide +kernel) (Nat.le_of_ble_eq_true rfl) ⟨Or.inr (Nat.le_add_right _ _), trivial⟩ ?_
  show Wp RJ0 cJ0_coder_7d493 1 (some .byte) [] hF d 0 0 0 [(0, .ref (gSB + k))] [] S I J _
  refine wp_scompact dJ0_coder_7d493_0 sj38 ?_
  refine wp_if_eq (tgt := 13) dJ0_coder_7d493_3 (by decide) (fun hc => absurd hc (by decide)) (fun hc => ?_)
  refine wp_aload_n dJ0_coder_7d493_6 rfl rfl ?_
  refine wp_scoder hk dJ0_coder_7d493_7 sj15 ?_
  refine wp_goto (tgt := 14) dJ0_coder_7d493_10 (by decide) ?_
  exact wp_nret dJ0_coder_7d493_14 rfl rfl ⟨rfl, rfl, rfl, rfl⟩
set_option maxHeartbeats 4000000 in
set_option maxRecDepth 100000 in
theorem ct_isLatin1 (d : Nat) (hd : 0 ≤ d) {S : gS} {I : gI} {J : gJ} {k : Nat} (hk : k < 3)  : Ct yJ0_isLatin1_aae02 (wsY yJ0_isLatin1_aae02 cJ0_isLatin1_aae02 1 (some .boolean)) d 0 0 [.ref (gSB + k)] S I J (qE (.inl (some (.int 1))) S I J) := by
  refine Ct.of hF (fun _ _ _ _ _ => trivial) (by decide +kernel) (Nat.le_of_ble_eq_true rfl) ⟨Or.inr (Nat.le_add_right _ _), trivial⟩ ?_
  show Wp RJ0 cJ0_isLatin1_aae02 1 (some .boolean) [] hF d 0 0 0 [(0, .ref (gSB + k))] [] S I J _
  refine wp_scompact dJ0_isLatin1_aae02_0 sj38 ?_
  refine wp_if_eq (tgt := 17) dJ0_isLatin1_aae02_3 (by decide) (fun hc => absurd hc (by decide)) (fun hc => ?_)
  refine wp_aload_n dJ0_isLatin1_aae02_6 rfl rfl ?_
  refine wp_scoder hk dJ0_isLatin1_aae02_7 sj15 ?_
  refine wp_if_ne (tgt := 17) dJ0_isLatin1_aae02_10 (by decide) (fun hc => absurd rfl hc) (fun hc => ?_)
  refine wp_iconst (v := 1) dJ0_isLatin1_aae02_13 (by decide) ?_
  refine wp_goto (tgt := 18) dJ0_isLatin1_aae02_14 (by decide) ?_
  exact wp_zret dJ0_isLatin1_aae02_18 rfl (Or.inr rfl) ⟨rfl, rfl, rfl, rfl⟩
set_option maxHeartbeats 4000000 in
set_option maxRecDepth 100000 in
theorem ct_length (d : Nat) (hd : 1 ≤ d) {S : gS} {I : gI} {J : gJ} {k : Nat} (hk : k < 3)  : Ct yJ0_length_8abf5 (wsY yJ0_length_8abf5 cJ0_length_8abf5 1 (some .int)) d 0 0 [.ref (gSB + k)] S I J (qE (.inl (some (.int (Int32.ofNat (sLen k))))) S I J) := by
  refine Ct.of hF (fun _ _ _ _ _ => trivial) (by decide +kernel) (Nat.le_of_ble_eq_true rfl) ⟨Or.inr (Nat.le_add_right _ _), trivial⟩ ?_
  show Wp RJ0 cJ0_length_8abf5 1 (some .int) [] hF d 0 0 0 [(0, .ref (gSB + k))] [] S I J _
  refine wp_aload_n dJ0_length_8abf5_0 rfl rfl ?_
  refine wp_svalue hk dJ0_length_8abf5_1 sj9 ?_
  refine wp_salen hk dJ0_length_8abf5_4 ?_
  refine wp_aload_n dJ0_length_8abf5_5 rfl rfl ?_
  refine wp_callStr (As := []) hk rfl dJ0_length_8abf5_6 lbJ0_coder_7d493 mlJ0_335 imJ0_coder_7d493 seJ0_coder_7d493 (ct_coder 0 (Nat.le_refl _) hk) rfl rfl (Nat.le_trans (by decide) hd) (Nat.le_of_ble_eq_true rfl) ?_
  refine wp_ishr dJ0_length_8abf5_9 ?_
  rw [sb_shr0]
  exact wp_iret dJ0_length_8abf5_10 rfl ⟨rfl, rfl, rfl, rfl⟩
set_option maxHeartbeats 4000000 in
set_option maxRecDepth 100000 in
theorem ct_pcheck (d : Nat) (hd : 0 ≤ d) {S : gS} {I : gI} {J : gJ} {i n : Int32} {v : Value} (hv9 : v = .null ∨ v = .ref (gSB + 200)) (h1 : ¬ i < 0) (h2 : i < n)  : Ct yJ3_checkIndex_8e157 (wsY yJ3_checkIndex_8e157 cJ3_checkIndex_8e157 3 (some .int)) d 0 0 [.int i, .int n, v] S I J (qE (.inl (some (.int i))) S I J) := by
  refine Ct.of hF (fun _ _ _ _ _ => trivial) (by decide +kernel) (by rcases hv9 with rfl | rfl <;> exact Nat.le_of_ble_eq_true rfl) ⟨trivial, trivial, (by rcases hv9 with rfl | rfl; exact trivial; exact Or.inr (Nat.le_add_right _ _)), trivial⟩ ?_
  have hga : gArgs 0 [.int i, .int n, v] = [(0, .int i), (1, .int n), (2, v)] := rfl
  show Wp RJ3 cJ3_checkIndex_8e157 3 (some .int) [] hF d 0 0 0 [(0, .int i), (1, .int n), (2, v)] [] S I J _
  refine wp_iload_n dJ3_checkIndex_8e157_0 rfl rfl ?_
  refine wp_if_lt (tgt := 9) dJ3_checkIndex_8e157_1 (by decide) (fun hc => absurd hc h1) (fun hc => ?_)
  refine wp_iload_n dJ3_checkIndex_8e157_4 rfl rfl ?_
  refine wp_iload_n dJ3_checkIndex_8e157_5 rfl rfl ?_
  refine wp_icmp_lt (tgt := 16) dJ3_checkIndex_8e157_6 (by decide) (fun hc => ?_) (fun hc => absurd h2 hc)
  refine wp_iload_n dJ3_checkIndex_8e157_16 rfl rfl ?_
  exact wp_iret dJ3_checkIndex_8e157_17 rfl ⟨rfl, rfl, rfl, rfl⟩
set_option maxHeartbeats 4000000 in
set_option maxRecDepth 100000 in
theorem ct_scheck (d : Nat) (hd : 1 ≤ d) {S : gS} {I : gI} {J : gJ} {i n : Int32} (h1 : ¬ i < 0) (h2 : i < n)  : Ct yJ0_checkIndex_df160 (wsY yJ0_checkIndex_df160 cJ0_checkIndex_df160 2 none) d 0 0 [.int i, .int n] S I J (qE (.inl none) S I J) := by
  refine Ct.of hF (fun _ _ _ _ _ => trivial) (by decide +kernel) (Nat.le_of_ble_eq_true rfl) ⟨trivial, trivial, trivial⟩ ?_
  show Wp RJ0 cJ0_checkIndex_df160 2 none [] hF d 0 0 0 [(0, .int i), (1, .int n)] [] S I J _
  refine wp_iload_n dJ0_checkIndex_df160_0 rfl rfl ?_
  refine wp_iload_n dJ0_checkIndex_df160_1 rfl rfl ?_
  refine wp_sform dJ0_checkIndex_df160_2 sj1053 (fun v hv9 => ?_)
  refine wp_callSi (As := [.int i, .int n, v]) dJ0_checkIndex_df160_5 lbJ3_checkIndex_8e157 mlJ0_1059 smJ3_checkIndex_8e157 (ct_pcheck 0 (Nat.le_refl _) hv9 h1 h2) rfl rfl (Nat.le_trans (by decide) hd) (Nat.le_of_ble_eq_true rfl) (fun _ => ?_)
  refine wp_pop dJ0_checkIndex_df160_8 rfl ?_
  exact wp_vret dJ0_checkIndex_df160_9 rfl ⟨rfl, rfl, rfl, rfl⟩
set_option maxHeartbeats 4000000 in
set_option maxRecDepth 100000 in
theorem ct_l1charAt (d : Nat) (hd : 2 ≤ d) {S : gS} {I : gI} {J : gJ} {k : Nat} {i : Int32} (hk : k < 3) (h1 : ¬ i < 0) (h2 : i < Int32.ofNat (sLen k)) (hin : vp_in i (sLen k))  : Ct yJ1_charAt_3b067 (wsY yJ1_charAt_3b067 cJ1_charAt_3b067 2 (some .char)) d 0 0 [.ref (gSB + 100 + k), .int i] S I J (qE (.inl (some (.int (sByt k i.toNatClampNeg &&& 255)))) S I J) := by
  refine Ct.of hF (fun _ _ _ _ _ => trivial) (by decide +kernel) (Nat.le_of_ble_eq_true rfl) ⟨Or.inr (by omega), trivial, trivial⟩ ?_
  show Wp RJ1 cJ1_charAt_3b067 2 (some .char) [] hF d 0 0 0 [(0, .ref (gSB + 100 + k)), (1, .int i)] [] S I J _
  refine wp_iload_n dJ1_charAt_3b067_0 rfl rfl ?_
  refine wp_aload_n dJ1_charAt_3b067_1 rfl rfl ?_
  refine wp_salen hk dJ1_charAt_3b067_2 ?_
  refine wp_callSv (As := [.int i, .int (Int32.ofNat (sLen k))]) dJ1_charAt_3b067_3 lbJ0_checkIndex_df160 mlJ1_9 smJ0_checkIndex_df160 (ct_scheck 1 (Nat.le_refl _) h1 h2) rfl rfl (Nat.le_trans (by decide) hd) (Nat.le_of_ble_eq_true rfl) (fun _ => ?_)
  refine wp_aload_n dJ1_charAt_3b067_6 rfl rfl ?_
  refine wp_iload_n dJ1_charAt_3b067_7 rfl rfl ?_
  refine wp_sbald hk dJ1_charAt_3b067_8 hin ?_
  refine wp_sipush (v := 255) dJ1_charAt_3b067_9 (by decide) ?_
  refine wp_iand dJ1_charAt_3b067_12 ?_
  refine wp_i2c dJ1_charAt_3b067_13 (sc_c2 _) ?_
  exact wp_nret dJ1_charAt_3b067_14 rfl (sc_nar _) ⟨rfl, rfl, rfl, rfl⟩
set_option maxHeartbeats 4000000 in
set_option maxRecDepth 100000 in
theorem ct_charAt (d : Nat) (hd : 3 ≤ d) {S : gS} {I : gI} {J : gJ} {k : Nat} {i : Int32} (hk : k < 3) (h1 : ¬ i < 0) (h2 : i < Int32.ofNat (sLen k)) (hin : vp_in i (sLen k))  : Ct yJ0_charAt_5068e (wsY yJ0_charAt_5068e cJ0_charAt_5068e 2 (some .char)) d 0 0 [.ref (gSB + k), .int i] S I J (qE (.inl (some (.int (sByt k i.toNatClampNeg &&& 255)))) S I J) := by
  refine Ct.of hF (fun _ _ _ _ _ => trivial) (by decide +kernel) (Nat.le_of_ble_eq_true rfl) ⟨Or.inr (Nat.le_add_right _ _), trivial, trivial⟩ ?_
  show Wp RJ0 cJ0_charAt_5068e 2 (some .char) [] hF d 0 0 0 [(0, .ref (gSB + k)), (1, .int i)] [] S I J _
  refine wp_aload_n dJ0_charAt_5068e_0 rfl rfl ?_
  refine wp_callStr (As := []) hk rfl dJ0_charAt_5068e_1 lbJ0_isLatin1_aae02 mlJ0_492 imJ0_isLatin1_aae02 seJ0_isLatin1_aae02 (ct_isLatin1 0 (Nat.le_refl _) hk) rfl rfl (Nat.le_trans (by decide) hd) (Nat.le_of_ble_eq_true rfl) ?_
  refine wp_if_eq (tgt := 16) dJ0_charAt_5068e_4 (by decide) (fun hc => absurd hc (by decide)) (fun hc => ?_)
  refine wp_aload_n dJ0_charAt_5068e_7 rfl rfl ?_
  refine wp_svalue hk dJ0_charAt_5068e_8 sj9 ?_
  refine wp_iload_n dJ0_charAt_5068e_11 rfl rfl ?_
  refine wp_callSi (As := [.ref (gSB + 100 + k), .int i]) dJ0_charAt_5068e_12 lbJ1_charAt_3b067 mlJ0_495 smJ1_charAt_3b067 (ct_l1charAt 2 (Nat.le_refl _) hk h1 h2 hin) rfl rfl (Nat.le_trans (by decide) hd) (Nat.le_of_ble_eq_true rfl) (fun _ => ?_)
  exact wp_nret dJ0_charAt_5068e_15 rfl (sc_nar _) ⟨rfl, rfl, rfl, rfl⟩
theorem vp_n0 {i : Int32} {n : Nat} (h : vp_in i n) : ¬ i < 0 := fun q => h (Or.inl q)
theorem vp_ltI {i : Int32} {n : Nat} (h : vp_in i n) (hn : n < 2 ^ 31) : i < Int32.ofNat n := by
  obtain ⟨j, hj, rfl⟩ := vp_in_of h hn
  exact nI_lt hj hn
theorem Sh_bytes {S : gS} (h : Sh S) : Sh (updR S 28 0 (some 1)) := by
  refine ⟨h.1, fun k j r hr => ?_, h.2.2⟩
  show (if k = 28 ∧ j = 0 then some 1 else S.2.1 k j) = some r
  by_cases hk : k = 28 ∧ j = 0
  · obtain ⟨rfl, rfl⟩ := hk
    have e : ((shR[28]?).bind fun l => l[0]?) = none := by decide +kernel
    rw [e] at hr
    cases hr
  · rw [if_neg hk]
    exact h.2.1 k j r hr
theorem Sh_new {S : gS} {kd : Nat × Nat} (h : Sh S) : Sh (newS S kd) := by
  have hl : shK.length = 338 := by decide +kernel
  have hr0 : shR.length = 338 := by decide +kernel
  refine ⟨fun k q hq => ?_, fun k j r hr => ?_, by have := h.2.2; show 338 ≤ S.2.2 + 1; omega⟩
  · have h1 : k < shK.length := (List.getElem?_eq_some_iff.mp hq).1
    show (if k = S.2.2 then kd else S.1 k) = q
    rw [if_neg (by have := h.2.2; omega)]
    exact h.1 k q hq
  · have h1 : k < shR.length := by
      cases hc : shR[k]? with
      | none => rw [hc] at hr; cases hr
      | some z => exact (List.getElem?_eq_some_iff.mp hc).1
    show (if k = S.2.2 then none else S.2.1 k j) = some r
    rw [if_neg (by have := h.2.2; omega)]
    exact h.2.1 k j r hr
theorem Sh_upd {S : gS} {k j : Nat} {v : Option Nat} (hk : 338 ≤ k) (h : Sh S) : Sh (updR S k j v) := by
  have hr0 : shR.length = 338 := by decide +kernel
  refine ⟨h.1, fun k' j' r hr => ?_, h.2.2⟩
  have h1 : k' < shR.length := by
    cases hc : shR[k']? with
    | none => rw [hc] at hr; cases hr
    | some z => exact (List.getElem?_eq_some_iff.mp hc).1
  show (if k' = k ∧ j' = j then v else S.2.1 k' j') = some r
  rw [if_neg (by omega)]
  exact h.2.1 k' j' r hr
