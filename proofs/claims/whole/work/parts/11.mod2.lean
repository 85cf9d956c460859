def mX11_isAugmented_2 (k1 : Int32) (k2 : Int32) : Nat → Int32 → gI → Option (gI)
  | 0, _, _ => none
  | n + 1, v3, I => if 8 ≤ v3 then (some I) else (ck v3 8 (mX11_isAugmented_2 k1 k2 n (v3 + 1) (upd2 I 331 v3.toNatClampNeg (-1))))
def mX11_isAugmented_46 (k2 : Int32) : Nat → Int32 → Int32 → Int32 → gI → Option (Int32 × Int32 × gI)
  | 0, _, _, _, _ => none
  | n + 1, v3, v4, v5, I => if (I 310 14) ≤ v5 then (some (v3, v4, I)) else (ck (5 * v5) 80 (ck ((5 * v5) + 1) 80 (ck v5 16 (Option.bind (if (I 329 v5.toNatClampNeg) ≤ 0 then (some 0) else (if ((v4 >>> ((I 313 (5 * v5).toNatClampNeg) &&& 31)) &&& 1) = 1 then (nm ((v4 >>> ((I 313 ((5 * v5) + 1).toNatClampNeg) &&& 31)) &&& 1) (fun x13 => if x13 = 0 then (some 1) else (some 0))) else (some 0)) : Option (Int32)) (fun x10 => Option.bind (if (I 330 v5.toNatClampNeg) ≤ 0 then (some 0) else (nm ((v4 >>> ((I 313 ((5 * v5) + 1).toNatClampNeg) &&& 31)) &&& 1) (fun x18 => if x18 = 1 then (if ((v4 >>> ((I 313 (5 * v5).toNatClampNeg) &&& 31)) &&& 1) = 0 then (some 1) else (some 0)) else (some 0))) : Option (Int32)) (fun x16 => if x10 = 0 then (if x16 = 0 then (mX11_isAugmented_46 k2 n v3 v4 (v5 + 1) I) else (Option.bind (if x10 = 0 then (some (I 313 (5 * v5).toNatClampNeg)) else (some (I 313 ((5 * v5) + 1).toNatClampNeg)) : Option (Int32)) (fun x36 => Option.bind (if x10 = 0 then (some (16 + v5)) else (some v5) : Option (Int32)) (fun x38 => ck x36 8 (if x10 = 0 then (nm (v4 ||| ((1 : Int32) <<< ((I 313 (5 * v5).toNatClampNeg) &&& 31))) (fun x42 => mX11_isAugmented_46 k2 n 1 x42 (v5 + 1) (upd2 I 331 x36.toNatClampNeg x38))) else (nm ((1 : Int32) <<< ((I 313 ((5 * v5) + 1).toNatClampNeg) &&& 31)) (fun x44 => mX11_isAugmented_46 k2 n 1 (v4 ||| x44) (v5 + 1) (upd2 I 331 x36.toNatClampNeg x38)))))))) else (Option.bind (if x10 = 0 then (some (I 313 (5 * v5).toNatClampNeg)) else (some (I 313 ((5 * v5) + 1).toNatClampNeg)) : Option (Int32)) (fun x23 => Option.bind (if x10 = 0 then (some (16 + v5)) else (some v5) : Option (Int32)) (fun x25 => ck x23 8 (if x10 = 0 then (nm (v4 ||| ((1 : Int32) <<< ((I 313 (5 * v5).toNatClampNeg) &&& 31))) (fun x29 => mX11_isAugmented_46 k2 n 1 x29 (v5 + 1) (upd2 I 331 x23.toNatClampNeg x25))) else (nm ((1 : Int32) <<< ((I 313 ((5 * v5) + 1).toNatClampNeg) &&& 31)) (fun x31 => mX11_isAugmented_46 k2 n 1 (v4 ||| x31) (v5 + 1) (upd2 I 331 x23.toNatClampNeg x25)))))))))))))
def mX11_isAugmented_28 (N : Nat) (k2 : Int32) : Nat → Int32 → Int32 → gI → Option (Int32 × gI)
  | 0, _, _, _ => none
  | n + 1, v3, v4, I => if v3 = 0 then (some (v4, I)) else (if ((v4 >>> (k2 &&& 31)) &&& 1) = 0 then (Option.bind (mX11_isAugmented_46 k2 N 0 v4 0 I) (fun (y50, y51, I52) => mX11_isAugmented_28 N k2 n y50 y51 I52)) else (some (v4, I)))
def mX11_isAugmented (N : Nat) (a2 : Int32) (a3 : Int32) (I : gI) : Option (Int32 × gI) := Option.bind (mX11_isAugmented_2 a2 a3 N 0 I) (fun I3 => Option.bind (mX11_isAugmented_28 N a3 N 1 ((1 : Int32) <<< (a2 &&& 31)) I3) (fun (y55, I56) => if ((y55 >>> (a3 &&& 31)) &&& 1) = 1 then (some (1, I56)) else (some (0, I56))))
set_option maxHeartbeats 4000000 in
set_option maxRecDepth 100000 in
theorem wX11_isAugmented_2 (d : Nat) (hd : 0 ≤ d) {S : gS} {J : gJ} (hS : Sh S)  (k1 : Int32) (k2 : Int32) {Q : gO → gS → gI → gJ → Prop} :
    ∀ (n : Nat) (v3 : Int32) (I : gI) (res : gI), mX11_isAugmented_2 k1 k2 n v3 I = some res → (∀ (O : gI), res = O → Wp RX11 cX11_isAugmented 10 (some .boolean) [] hF d 0 0 21 [(0, .ref 310), (1, .int k1), (2, .int k2)] [] S O J Q) → Wp RX11 cX11_isAugmented 10 (some .boolean) [] hF d 0 0 2 [(0, .ref 310), (1, .int k1), (2, .int k2), (3, .int v3)] [] S I J Q := by
  intro n
  induction n with
  | zero => intro v3 I res h; exact nso h
  | succ n ih =>
    intro v3 I res h kx
    rw [mX11_isAugmented_2] at h
    refine wp_iload_n dX11_isAugmented_2 rfl rfl ?_
    refine wp_bipush (v := 8) dX11_isAugmented_3 (by decide) ?_
    refine wp_icmp_ge (tgt := 21) dX11_isAugmented_5 (by decide) (fun hc1 => ?_) (fun hc1 => ?_)
    · have h := ite_t hc1 h
      exact wp_pick (ks := [0, 1, 2]) rfl (kx _ (sji h).symm)
    · have h := ite_f hc1 h
      refine wp_aload_n dX11_isAugmented_8 rfl rfl ?_
      refine wp_getR dX11_isAugmented_9 flX11_78 rfl (sk310 hS) (sn310 hS) (sr310_43 hS) ?_
      refine wp_iload_n dX11_isAugmented_12 rfl rfl ?_
      refine wp_iconst (v := (-1)) dX11_isAugmented_13 (by decide) ?_
      obtain ⟨hb2, h⟩ := ck_inv h
      refine wp_iast dX11_isAugmented_14 (sk331 hS) (sn331 hS) hb2 ?_
      refine wp_iinc (v := 1) (ls' := [(3, .int (v3 + 1)), (0, .ref 310), (1, .int k1), (2, .int k2)]) dX11_isAugmented_15 rfl (by decide) (Nat.le_of_ble_eq_true rfl) rfl ?_
      refine wp_goto (tgt := 2) dX11_isAugmented_18 (by decide) ?_
      exact wp_pick (ks := [1, 2, 3, 0]) rfl (ih _ _ _ h kx)
set_option maxHeartbeats 4000000 in
set_option maxRecDepth 100000 in
theorem wX11_isAugmented_46 (d : Nat) (hd : 0 ≤ d) {S : gS} {J : gJ} (hS : Sh S)  (k2 : Int32) {Q : gO → gS → gI → gJ → Prop} :
    ∀ (n : Nat) (v3 : Int32) (v4 : Int32) (v5 : Int32) (I : gI) (res : Int32 × Int32 × gI), mX11_isAugmented_46 k2 n v3 v4 v5 I = some res → (∀ (o3 : Int32) (o4 : Int32) (O : gI), res = (o3, o4, O) → Wp RX11 cX11_isAugmented 10 (some .boolean) [] hF d 0 0 227 [(0, .ref 310), (2, .int k2), (3, .int o3), (4, .int o4)] [] S O J Q) → Wp RX11 cX11_isAugmented 10 (some .boolean) [] hF d 0 0 46 [(0, .ref 310), (2, .int k2), (3, .int v3), (4, .int v4), (5, .int v5)] [] S I J Q := by
  intro n
  induction n with
  | zero => intro v3 v4 v5 I res h; exact nso h
  | succ n ih =>
    intro v3 v4 v5 I res h kx
    rw [mX11_isAugmented_46] at h
    refine wp_iload dX11_isAugmented_46 rfl ?_
    refine wp_aload_n dX11_isAugmented_48 rfl rfl ?_
    refine wp_getI dX11_isAugmented_49 flX11_199 rfl (sk310 hS) (sn310 hS) ?_
    refine wp_icmp_ge (tgt := 227) dX11_isAugmented_52 (by decide) (fun hc6 => ?_) (fun hc6 => ?_)
    · have h := ite_t hc6 h
      exact wp_pick (ks := [0, 1, 2, 3]) rfl (kx _ _ _ (sji h).symm)
    · have h := ite_f hc6 h
      refine wp_aload_n dX11_isAugmented_55 rfl rfl ?_
      refine wp_getR dX11_isAugmented_56 flX11_23 rfl (sk310 hS) (sn310 hS) (sr310_19 hS) ?_
      refine wp_iconst (v := 5) dX11_isAugmented_59 (by decide) ?_
      refine wp_iload dX11_isAugmented_60 rfl ?_
      refine wp_imul dX11_isAugmented_62 ?_
      obtain ⟨hb7, h⟩ := ck_inv h
      refine wp_iald dX11_isAugmented_63 (sk313 hS) (sn313 hS) hb7 ?_
      refine wp_istore (ls' := [(6, .int (I 313 (5 * v5).toNatClampNeg)), (0, .ref 310), (2, .int k2), (3, .int v3), (4, .int v4), (5, .int v5)]) dX11_isAugmented_64 (Nat.le_of_ble_eq_true rfl) rfl ?_
      refine wp_aload_n dX11_isAugmented_66 rfl rfl ?_
      refine wp_getR dX11_isAugmented_67 flX11_23 rfl (sk310 hS) (sn310 hS) (sr310_19 hS) ?_
      refine wp_iconst (v := 5) dX11_isAugmented_70 (by decide) ?_
      refine wp_iload dX11_isAugmented_71 rfl ?_
      refine wp_imul dX11_isAugmented_73 ?_
      refine wp_iconst (v := 1) dX11_isAugmented_74 (by decide) ?_
      refine wp_iadd dX11_isAugmented_75 ?_
      obtain ⟨hb8, h⟩ := ck_inv h
      refine wp_iald dX11_isAugmented_76 (sk313 hS) (sn313 hS) hb8 ?_
      refine wp_istore (ls' := [(7, .int (I 313 ((5 * v5) + 1).toNatClampNeg)), (6, .int (I 313 (5 * v5).toNatClampNeg)), (0, .ref 310), (2, .int k2), (3, .int v3), (4, .int v4), (5, .int v5)]) dX11_isAugmented_77 (Nat.le_of_ble_eq_true rfl) rfl ?_
      refine wp_aload_n dX11_isAugmented_79 rfl rfl ?_
      refine wp_getR dX11_isAugmented_80 flX11_72 rfl (sk310 hS) (sn310 hS) (sr310_41 hS) ?_
      refine wp_iload dX11_isAugmented_83 rfl ?_
      obtain ⟨hb9, h⟩ := ck_inv h
      refine wp_iald dX11_isAugmented_85 (sk329 hS) (sn329 hS) hb9 ?_
      obtain ⟨x10, hh49, h⟩ := obi h
      have hJ : Wp RX11 cX11_isAugmented 10 (some .boolean) [] hF d 0 0 115 [(0, .ref 310), (2, .int k2), (3, .int v3), (4, .int v4), (5, .int v5), (6, .int (I 313 (5 * v5).toNatClampNeg)), (7, .int (I 313 ((5 * v5) + 1).toNatClampNeg))] [.int x10] S I J Q := by
        refine wp_istore (ls' := [(8, .int x10), (0, .ref 310), (2, .int k2), (3, .int v3), (4, .int v4), (5, .int v5), (6, .int (I 313 (5 * v5).toNatClampNeg)), (7, .int (I 313 ((5 * v5) + 1).toNatClampNeg))]) dX11_isAugmented_115 (Nat.le_of_ble_eq_true rfl) rfl ?_
        refine wp_aload_n dX11_isAugmented_117 rfl rfl ?_
        refine wp_getR dX11_isAugmented_118 flX11_75 rfl (sk310 hS) (sn310 hS) (sr310_42 hS) ?_
        refine wp_iload dX11_isAugmented_121 rfl ?_
        refine wp_iald dX11_isAugmented_123 (sk330 hS) (sn330 hS) hb9 ?_
        obtain ⟨x16, hh48, h⟩ := obi h
        have hJ : Wp RX11 cX11_isAugmented 10 (some .boolean) [] hF d 0 0 153 [(0, .ref 310), (2, .int k2), (3, .int v3), (4, .int v4), (5, .int v5), (6, .int (I 313 (5 * v5).toNatClampNeg)), (7, .int (I 313 ((5 * v5) + 1).toNatClampNeg)), (8, .int x10)] [.int x16] S I J Q := by
          refine wp_istore (ls' := [(9, .int x16), (0, .ref 310), (2, .int k2), (3, .int v3), (4, .int v4), (5, .int v5), (6, .int (I 313 (5 * v5).toNatClampNeg)), (7, .int (I 313 ((5 * v5) + 1).toNatClampNeg)), (8, .int x10)]) dX11_isAugmented_153 (Nat.le_of_ble_eq_true rfl) rfl ?_
          refine wp_iload dX11_isAugmented_155 rfl ?_
          refine wp_if_ne (tgt := 168) dX11_isAugmented_157 (by decide) (fun hc22 => ?_) (fun hc22 => ?_)
          · have h := ite_f hc22 h
            refine wp_aload_n dX11_isAugmented_168 rfl rfl ?_
            refine wp_getR dX11_isAugmented_169 flX11_78 rfl (sk310 hS) (sn310 hS) (sr310_43 hS) ?_
            refine wp_iload dX11_isAugmented_172 rfl ?_
            obtain ⟨x23, hh34, h⟩ := obi h
            have hJ : Wp RX11 cX11_isAugmented 10 (some .boolean) [] hF d 0 0 184 [(0, .ref 310), (2, .int k2), (4, .int v4), (5, .int v5), (6, .int (I 313 (5 * v5).toNatClampNeg)), (7, .int (I 313 ((5 * v5) + 1).toNatClampNeg)), (8, .int x10)] [.int x23, .ref 331] S I J Q := by
              refine wp_iload dX11_isAugmented_184 rfl ?_
              obtain ⟨x25, hh33, h⟩ := obi h
              have hJ : Wp RX11 cX11_isAugmented 10 (some .boolean) [] hF d 0 0 199 [(0, .ref 310), (2, .int k2), (4, .int v4), (5, .int v5), (6, .int (I 313 (5 * v5).toNatClampNeg)), (7, .int (I 313 ((5 * v5) + 1).toNatClampNeg)), (8, .int x10)] [.int x25, .int x23, .ref 331] S I J Q := by
                obtain ⟨hb27, h⟩ := ck_inv h
                refine wp_iast dX11_isAugmented_199 (sk331 hS) (sn331 hS) hb27 ?_
                refine wp_iload dX11_isAugmented_200 rfl ?_
                refine wp_iconst (v := 1) dX11_isAugmented_202 (by decide) ?_
                refine wp_iload dX11_isAugmented_203 rfl ?_
                refine wp_if_eq (tgt := 213) dX11_isAugmented_205 (by decide) (fun hc28 => ?_) (fun hc28 => ?_)
                · have h := ite_t hc28 h
                  refine wp_iload dX11_isAugmented_213 rfl ?_
                  refine wp_ishl dX11_isAugmented_215 ?_
                  refine wp_ior dX11_isAugmented_216 ?_
                  obtain ⟨x29, hx30, h⟩ := nm_inv h
                  refine wp_topi hx30 ?_
                  refine wp_istore (ls' := [(4, .int x29), (0, .ref 310), (2, .int k2), (5, .int v5), (6, .int (I 313 (5 * v5).toNatClampNeg)), (7, .int (I 313 ((5 * v5) + 1).toNatClampNeg)), (8, .int x10)]) dX11_isAugmented_217 (Nat.le_of_ble_eq_true rfl) rfl ?_
                  refine wp_iconst (v := 1) dX11_isAugmented_219 (by decide) ?_
                  refine wp_istore_n (ls' := [(3, .int 1), (4, .int x29), (0, .ref 310), (2, .int k2), (5, .int v5), (6, .int (I 313 (5 * v5).toNatClampNeg)), (7, .int (I 313 ((5 * v5) + 1).toNatClampNeg)), (8, .int x10)]) dX11_isAugmented_220 rfl (Nat.le_of_ble_eq_true rfl) rfl ?_
                  refine wp_iinc (v := 1) (ls' := [(5, .int (v5 + 1)), (3, .int 1), (4, .int x29), (0, .ref 310), (2, .int k2), (6, .int (I 313 (5 * v5).toNatClampNeg)), (7, .int (I 313 ((5 * v5) + 1).toNatClampNeg)), (8, .int x10)]) dX11_isAugmented_221 rfl (by decide) (Nat.le_of_ble_eq_true rfl) rfl ?_
                  refine wp_goto (tgt := 46) dX11_isAugmented_224 (by decide) ?_
                  exact wp_pick (ks := [3, 4, 1, 2, 0]) rfl (ih _ _ _ _ _ h kx)
                · have h := ite_f hc28 h
                  refine wp_iload dX11_isAugmented_208 rfl ?_
                  refine wp_goto (tgt := 215) dX11_isAugmented_210 (by decide) ?_
                  refine wp_ishl dX11_isAugmented_215 ?_
                  obtain ⟨x31, hx32, h⟩ := nm_inv h
                  refine wp_topi hx32 ?_
                  refine wp_ior dX11_isAugmented_216 ?_
                  refine wp_istore (ls' := [(4, .int (v4 ||| x31)), (0, .ref 310), (2, .int k2), (5, .int v5), (6, .int (I 313 (5 * v5).toNatClampNeg)), (7, .int (I 313 ((5 * v5) + 1).toNatClampNeg)), (8, .int x10)]) dX11_isAugmented_217 (Nat.le_of_ble_eq_true rfl) rfl ?_
                  refine wp_iconst (v := 1) dX11_isAugmented_219 (by decide) ?_
                  refine wp_istore_n (ls' := [(3, .int 1), (4, .int (v4 ||| x31)), (0, .ref 310), (2, .int k2), (5, .int v5), (6, .int (I 313 (5 * v5).toNatClampNeg)), (7, .int (I 313 ((5 * v5) + 1).toNatClampNeg)), (8, .int x10)]) dX11_isAugmented_220 rfl (Nat.le_of_ble_eq_true rfl) rfl ?_
                  refine wp_iinc (v := 1) (ls' := [(5, .int (v5 + 1)), (3, .int 1), (4, .int (v4 ||| x31)), (0, .ref 310), (2, .int k2), (6, .int (I 313 (5 * v5).toNatClampNeg)), (7, .int (I 313 ((5 * v5) + 1).toNatClampNeg)), (8, .int x10)]) dX11_isAugmented_221 rfl (by decide) (Nat.le_of_ble_eq_true rfl) rfl ?_
                  refine wp_goto (tgt := 46) dX11_isAugmented_224 (by decide) ?_
                  exact wp_pick (ks := [3, 4, 1, 2, 0]) rfl (ih _ _ _ _ _ h kx)
              clear h
              have h := hh33
              clear hh33
              refine wp_if_eq (tgt := 194) dX11_isAugmented_186 (by decide) (fun hc26 => ?_) (fun hc26 => ?_)
              · have h := ite_t hc26 h
                refine wp_bipush (v := 16) dX11_isAugmented_194 (by decide) ?_
                refine wp_iload dX11_isAugmented_196 rfl ?_
                refine wp_iadd dX11_isAugmented_198 ?_
                cases h
                exact wp_pick (ks := [0, 1, 2, 3, 4, 5, 6]) rfl hJ
              · have h := ite_f hc26 h
                refine wp_iload dX11_isAugmented_189 rfl ?_
                refine wp_goto (tgt := 199) dX11_isAugmented_191 (by decide) ?_
                cases h
                exact wp_pick (ks := [0, 1, 2, 3, 4, 5, 6]) rfl hJ
            clear h
            have h := hh34
            clear hh34
            refine wp_if_eq (tgt := 182) dX11_isAugmented_174 (by decide) (fun hc24 => ?_) (fun hc24 => ?_)
            · have h := ite_t hc24 h
              refine wp_iload dX11_isAugmented_182 rfl ?_
              cases h
              exact wp_pick (ks := [1, 2, 4, 5, 6, 7, 8]) rfl hJ
            · have h := ite_f hc24 h
              refine wp_iload dX11_isAugmented_177 rfl ?_
              refine wp_goto (tgt := 184) dX11_isAugmented_179 (by decide) ?_
              cases h
              exact wp_pick (ks := [1, 2, 4, 5, 6, 7, 8]) rfl hJ
          · have h := ite_t hc22 h
            refine wp_iload dX11_isAugmented_160 rfl ?_
            refine wp_if_ne (tgt := 168) dX11_isAugmented_162 (by decide) (fun hc35 => ?_) (fun hc35 => ?_)
            · have h := ite_f hc35 h
              refine wp_aload_n dX11_isAugmented_168 rfl rfl ?_
              refine wp_getR dX11_isAugmented_169 flX11_78 rfl (sk310 hS) (sn310 hS) (sr310_43 hS) ?_
              refine wp_iload dX11_isAugmented_172 rfl ?_
              obtain ⟨x36, hh47, h⟩ := obi h
              have hJ : Wp RX11 cX11_isAugmented 10 (some .boolean) [] hF d 0 0 184 [(0, .ref 310), (2, .int k2), (4, .int v4), (5, .int v5), (6, .int (I 313 (5 * v5).toNatClampNeg)), (7, .int (I 313 ((5 * v5) + 1).toNatClampNeg)), (8, .int x10)] [.int x36, .ref 331] S I J Q := by
                refine wp_iload dX11_isAugmented_184 rfl ?_
                obtain ⟨x38, hh46, h⟩ := obi h
                have hJ : Wp RX11 cX11_isAugmented 10 (some .boolean) [] hF d 0 0 199 [(0, .ref 310), (2, .int k2), (4, .int v4), (5, .int v5), (6, .int (I 313 (5 * v5).toNatClampNeg)), (7, .int (I 313 ((5 * v5) + 1).toNatClampNeg)), (8, .int x10)] [.int x38, .int x36, .ref 331] S I J Q := by
                  obtain ⟨hb40, h⟩ := ck_inv h
                  refine wp_iast dX11_isAugmented_199 (sk331 hS) (sn331 hS) hb40 ?_
                  refine wp_iload dX11_isAugmented_200 rfl ?_
                  refine wp_iconst (v := 1) dX11_isAugmented_202 (by decide) ?_
                  refine wp_iload dX11_isAugmented_203 rfl ?_
                  refine wp_if_eq (tgt := 213) dX11_isAugmented_205 (by decide) (fun hc41 => ?_) (fun hc41 => ?_)
                  · have h := ite_t hc41 h
                    refine wp_iload dX11_isAugmented_213 rfl ?_
                    refine wp_ishl dX11_isAugmented_215 ?_
                    refine wp_ior dX11_isAugmented_216 ?_
                    obtain ⟨x42, hx43, h⟩ := nm_inv h
                    refine wp_topi hx43 ?_
                    refine wp_istore (ls' := [(4, .int x42), (0, .ref 310), (2, .int k2), (5, .int v5), (6, .int (I 313 (5 * v5).toNatClampNeg)), (7, .int (I 313 ((5 * v5) + 1).toNatClampNeg)), (8, .int x10)]) dX11_isAugmented_217 (Nat.le_of_ble_eq_true rfl) rfl ?_
                    refine wp_iconst (v := 1) dX11_isAugmented_219 (by decide) ?_
                    refine wp_istore_n (ls' := [(3, .int 1), (4, .int x42), (0, .ref 310), (2, .int k2), (5, .int v5), (6, .int (I 313 (5 * v5).toNatClampNeg)), (7, .int (I 313 ((5 * v5) + 1).toNatClampNeg)), (8, .int x10)]) dX11_isAugmented_220 rfl (Nat.le_of_ble_eq_true rfl) rfl ?_
                    refine wp_iinc (v := 1) (ls' := [(5, .int (v5 + 1)), (3, .int 1), (4, .int x42), (0, .ref 310), (2, .int k2), (6, .int (I 313 (5 * v5).toNatClampNeg)), (7, .int (I 313 ((5 * v5) + 1).toNatClampNeg)), (8, .int x10)]) dX11_isAugmented_221 rfl (by decide) (Nat.le_of_ble_eq_true rfl) rfl ?_
                    refine wp_goto (tgt := 46) dX11_isAugmented_224 (by decide) ?_
                    exact wp_pick (ks := [3, 4, 1, 2, 0]) rfl (ih _ _ _ _ _ h kx)
                  · have h := ite_f hc41 h
                    refine wp_iload dX11_isAugmented_208 rfl ?_
                    refine wp_goto (tgt := 215) dX11_isAugmented_210 (by decide) ?_
                    refine wp_ishl dX11_isAugmented_215 ?_
                    obtain ⟨x44, hx45, h⟩ := nm_inv h
                    refine wp_topi hx45 ?_
                    refine wp_ior dX11_isAugmented_216 ?_
                    refine wp_istore (ls' := [(4, .int (v4 ||| x44)), (0, .ref 310), (2, .int k2), (5, .int v5), (6, .int (I 313 (5 * v5).toNatClampNeg)), (7, .int (I 313 ((5 * v5) + 1).toNatClampNeg)), (8, .int x10)]) dX11_isAugmented_217 (Nat.le_of_ble_eq_true rfl) rfl ?_
                    refine wp_iconst (v := 1) dX11_isAugmented_219 (by decide) ?_
                    refine wp_istore_n (ls' := [(3, .int 1), (4, .int (v4 ||| x44)), (0, .ref 310), (2, .int k2), (5, .int v5), (6, .int (I 313 (5 * v5).toNatClampNeg)), (7, .int (I 313 ((5 * v5) + 1).toNatClampNeg)), (8, .int x10)]) dX11_isAugmented_220 rfl (Nat.le_of_ble_eq_true rfl) rfl ?_
                    refine wp_iinc (v := 1) (ls' := [(5, .int (v5 + 1)), (3, .int 1), (4, .int (v4 ||| x44)), (0, .ref 310), (2, .int k2), (6, .int (I 313 (5 * v5).toNatClampNeg)), (7, .int (I 313 ((5 * v5) + 1).toNatClampNeg)), (8, .int x10)]) dX11_isAugmented_221 rfl (by decide) (Nat.le_of_ble_eq_true rfl) rfl ?_
                    refine wp_goto (tgt := 46) dX11_isAugmented_224 (by decide) ?_
                    exact wp_pick (ks := [3, 4, 1, 2, 0]) rfl (ih _ _ _ _ _ h kx)
                clear h
                have h := hh46
                clear hh46
                refine wp_if_eq (tgt := 194) dX11_isAugmented_186 (by decide) (fun hc39 => ?_) (fun hc39 => ?_)
                · have h := ite_t hc39 h
                  refine wp_bipush (v := 16) dX11_isAugmented_194 (by decide) ?_
                  refine wp_iload dX11_isAugmented_196 rfl ?_
                  refine wp_iadd dX11_isAugmented_198 ?_
                  cases h
                  exact wp_pick (ks := [0, 1, 2, 3, 4, 5, 6]) rfl hJ
                · have h := ite_f hc39 h
                  refine wp_iload dX11_isAugmented_189 rfl ?_
                  refine wp_goto (tgt := 199) dX11_isAugmented_191 (by decide) ?_
                  cases h
                  exact wp_pick (ks := [0, 1, 2, 3, 4, 5, 6]) rfl hJ
              clear h
              have h := hh47
              clear hh47
              refine wp_if_eq (tgt := 182) dX11_isAugmented_174 (by decide) (fun hc37 => ?_) (fun hc37 => ?_)
              · have h := ite_t hc37 h
                refine wp_iload dX11_isAugmented_182 rfl ?_
                cases h
                exact wp_pick (ks := [1, 2, 4, 5, 6, 7, 8]) rfl hJ
              · have h := ite_f hc37 h
                refine wp_iload dX11_isAugmented_177 rfl ?_
                refine wp_goto (tgt := 184) dX11_isAugmented_179 (by decide) ?_
                cases h
                exact wp_pick (ks := [1, 2, 4, 5, 6, 7, 8]) rfl hJ
            · have h := ite_t hc35 h
              refine wp_goto (tgt := 221) dX11_isAugmented_165 (by decide) ?_
              refine wp_iinc (v := 1) (ls' := [(5, .int (v5 + 1)), (9, .int x16), (0, .ref 310), (2, .int k2), (3, .int v3), (4, .int v4), (6, .int (I 313 (5 * v5).toNatClampNeg)), (7, .int (I 313 ((5 * v5) + 1).toNatClampNeg)), (8, .int x10)]) dX11_isAugmented_221 rfl (by decide) (Nat.le_of_ble_eq_true rfl) rfl ?_
              refine wp_goto (tgt := 46) dX11_isAugmented_224 (by decide) ?_
              exact wp_pick (ks := [2, 3, 4, 5, 0]) rfl (ih _ _ _ _ _ h kx)
        clear h
        have h := hh48
        clear hh48
        refine wp_if_le (tgt := 152) dX11_isAugmented_124 (by decide) (fun hc17 => ?_) (fun hc17 => ?_)
        · have h := ite_t hc17 h
          refine wp_iconst (v := 0) dX11_isAugmented_152 (by decide) ?_
          cases h
          exact wp_pick (ks := [1, 2, 3, 4, 5, 6, 7, 0]) rfl hJ
        · have h := ite_f hc17 h
          refine wp_iload dX11_isAugmented_127 rfl ?_
          refine wp_iload dX11_isAugmented_129 rfl ?_
          refine wp_ishr dX11_isAugmented_131 ?_
          refine wp_iconst (v := 1) dX11_isAugmented_132 (by decide) ?_
          refine wp_iand dX11_isAugmented_133 ?_
          obtain ⟨x18, hx19, h⟩ := nm_inv h
          refine wp_topi hx19 ?_
          refine wp_iconst (v := 1) dX11_isAugmented_134 (by decide) ?_
          refine wp_icmp_ne (tgt := 152) dX11_isAugmented_135 (by decide) (fun hc20 => ?_) (fun hc20 => ?_)
          · have h := ite_f hc20 h
            refine wp_iconst (v := 0) dX11_isAugmented_152 (by decide) ?_
            cases h
            exact wp_pick (ks := [1, 2, 3, 4, 5, 6, 7, 0]) rfl hJ
          · have h := ite_t hc20 h
            refine wp_iload dX11_isAugmented_138 rfl ?_
            refine wp_iload dX11_isAugmented_140 rfl ?_
            refine wp_ishr dX11_isAugmented_142 ?_
            refine wp_iconst (v := 1) dX11_isAugmented_143 (by decide) ?_
            refine wp_iand dX11_isAugmented_144 ?_
            refine wp_if_ne (tgt := 152) dX11_isAugmented_145 (by decide) (fun hc21 => ?_) (fun hc21 => ?_)
            · have h := ite_f hc21 h
              refine wp_iconst (v := 0) dX11_isAugmented_152 (by decide) ?_
              cases h
              exact wp_pick (ks := [1, 2, 3, 4, 5, 6, 7, 0]) rfl hJ
            · have h := ite_t hc21 h
              refine wp_iconst (v := 1) dX11_isAugmented_148 (by decide) ?_
              refine wp_goto (tgt := 153) dX11_isAugmented_149 (by decide) ?_
              cases h
              exact wp_pick (ks := [1, 2, 3, 4, 5, 6, 7, 0]) rfl hJ
      clear h
      have h := hh49
      clear hh49
      refine wp_if_le (tgt := 114) dX11_isAugmented_86 (by decide) (fun hc11 => ?_) (fun hc11 => ?_)
      · have h := ite_t hc11 h
        refine wp_iconst (v := 0) dX11_isAugmented_114 (by decide) ?_
        cases h
        exact wp_pick (ks := [2, 3, 4, 5, 6, 1, 0]) rfl hJ
      · have h := ite_f hc11 h
        refine wp_iload dX11_isAugmented_89 rfl ?_
        refine wp_iload dX11_isAugmented_91 rfl ?_
        refine wp_ishr dX11_isAugmented_93 ?_
        refine wp_iconst (v := 1) dX11_isAugmented_94 (by decide) ?_
        refine wp_iand dX11_isAugmented_95 ?_
        refine wp_iconst (v := 1) dX11_isAugmented_96 (by decide) ?_
        refine wp_icmp_ne (tgt := 114) dX11_isAugmented_97 (by decide) (fun hc12 => ?_) (fun hc12 => ?_)
        · have h := ite_f hc12 h
          refine wp_iconst (v := 0) dX11_isAugmented_114 (by decide) ?_
          cases h
          exact wp_pick (ks := [2, 3, 4, 5, 6, 1, 0]) rfl hJ
        · have h := ite_t hc12 h
          refine wp_iload dX11_isAugmented_100 rfl ?_
          refine wp_iload dX11_isAugmented_102 rfl ?_
          refine wp_ishr dX11_isAugmented_104 ?_
          refine wp_iconst (v := 1) dX11_isAugmented_105 (by decide) ?_
          refine wp_iand dX11_isAugmented_106 ?_
          obtain ⟨x13, hx14, h⟩ := nm_inv h
          refine wp_topi hx14 ?_
          refine wp_if_ne (tgt := 114) dX11_isAugmented_107 (by decide) (fun hc15 => ?_) (fun hc15 => ?_)
          · have h := ite_f hc15 h
            refine wp_iconst (v := 0) dX11_isAugmented_114 (by decide) ?_
            cases h
            exact wp_pick (ks := [2, 3, 4, 5, 6, 1, 0]) rfl hJ
          · have h := ite_t hc15 h
            refine wp_iconst (v := 1) dX11_isAugmented_110 (by decide) ?_
            refine wp_goto (tgt := 115) dX11_isAugmented_111 (by decide) ?_
            cases h
            exact wp_pick (ks := [2, 3, 4, 5, 6, 1, 0]) rfl hJ
set_option maxHeartbeats 4000000 in
set_option maxRecDepth 100000 in
theorem wX11_isAugmented_28 (N : Nat) (d : Nat) (hd : 0 ≤ d) {S : gS} {J : gJ} (hS : Sh S)  (k2 : Int32) {Q : gO → gS → gI → gJ → Prop} :
    ∀ (n : Nat) (v3 : Int32) (v4 : Int32) (I : gI) (res : Int32 × gI), mX11_isAugmented_28 N k2 n v3 v4 I = some res → (∀ (o4 : Int32) (O : gI), res = (o4, O) → Wp RX11 cX11_isAugmented 10 (some .boolean) [] hF d 0 0 230 [(2, .int k2), (4, .int o4)] [] S O J Q) → Wp RX11 cX11_isAugmented 10 (some .boolean) [] hF d 0 0 28 [(0, .ref 310), (2, .int k2), (3, .int v3), (4, .int v4)] [] S I J Q := by
  intro n
  induction n with
  | zero => intro v3 v4 I res h; exact nso h
  | succ n ih =>
    intro v3 v4 I res h kx
    rw [mX11_isAugmented_28] at h
    refine wp_iload_n dX11_isAugmented_28 rfl rfl ?_
    refine wp_if_eq (tgt := 230) dX11_isAugmented_29 (by decide) (fun hc4 => ?_) (fun hc4 => ?_)
    · have h := ite_t hc4 h
      exact wp_pick (ks := [1, 3]) rfl (kx _ _ (sji h).symm)
    · have h := ite_f hc4 h
      refine wp_iload dX11_isAugmented_32 rfl ?_
      refine wp_iload_n dX11_isAugmented_34 rfl rfl ?_
      refine wp_ishr dX11_isAugmented_35 ?_
      refine wp_iconst (v := 1) dX11_isAugmented_36 (by decide) ?_
      refine wp_iand dX11_isAugmented_37 ?_
      refine wp_if_ne (tgt := 230) dX11_isAugmented_38 (by decide) (fun hc5 => ?_) (fun hc5 => ?_)
      · have h := ite_f hc5 h
        exact wp_pick (ks := [1, 3]) rfl (kx _ _ (sji h).symm)
      · have h := ite_t hc5 h
        refine wp_iconst (v := 0) dX11_isAugmented_41 (by decide) ?_
        refine wp_istore_n (ls' := [(3, .int 0), (0, .ref 310), (2, .int k2), (4, .int v4)]) dX11_isAugmented_42 rfl (Nat.le_of_ble_eq_true rfl) rfl ?_
        refine wp_iconst (v := 0) dX11_isAugmented_43 (by decide) ?_
        refine wp_istore (ls' := [(5, .int 0), (3, .int 0), (0, .ref 310), (2, .int k2), (4, .int v4)]) dX11_isAugmented_44 (Nat.le_of_ble_eq_true rfl) rfl ?_
        obtain ⟨⟨y50, y51, I52⟩, hL953, h⟩ := obi h
        refine wp_pick (ks := [2, 3, 1, 4, 0]) rfl (wX11_isAugmented_46 d hd hS  k2 N 0 v4 0 I _ hL953 (fun _ _ _ e54 => ?_))
        cases e54
        refine wp_goto (tgt := 28) dX11_isAugmented_227 (by decide) ?_
        exact wp_pick (ks := [0, 1, 2, 3]) rfl (ih _ _ _ _ h kx)
set_option maxHeartbeats 4000000 in
set_option maxRecDepth 100000 in
theorem ct_X11_isAugmented (N : Nat) (d : Nat) (hd : 0 ≤ d) {S : gS} {J : gJ} (hS : Sh S)  {a2 : Int32} {a3 : Int32} {I : gI} {r : Int32 × gI} (h : mX11_isAugmented N a2 a3 I = some r) : Ct yX11_isAugmented (wsY yX11_isAugmented cX11_isAugmented 10 (some .boolean)) d 0 0 [.ref 310, .int a2, .int a3] S I J (qE (.inl (some (.int r.1))) S r.2 J) := by
  refine Ct.of hF (fun _ _ _ _ _ => trivial) (by decide +kernel) (Nat.le_of_ble_eq_true rfl) ⟨Or.inl (sn310 hS), trivial, trivial, trivial⟩ ?_
  show Wp RX11 cX11_isAugmented 10 (some .boolean) [] hF d 0 0 0 [(0, .ref 310), (1, .int a2), (2, .int a3)] [] S I J _
  unfold mX11_isAugmented at h
  refine wp_iconst (v := 0) dX11_isAugmented_0 (by decide) ?_
  refine wp_istore_n (ls' := [(3, .int 0), (0, .ref 310), (1, .int a2), (2, .int a3)]) dX11_isAugmented_1 rfl (Nat.le_of_ble_eq_true rfl) rfl ?_
  obtain ⟨I3, hL960, h⟩ := obi h
  refine wp_pick (ks := [1, 2, 3, 0]) rfl (wX11_isAugmented_2 d hd hS  a2 a3 N 0 I _ hL960 (fun _ e61 => ?_))
  cases e61
  refine wp_iconst (v := 1) dX11_isAugmented_21 (by decide) ?_
  refine wp_istore_n (ls' := [(3, .int 1), (0, .ref 310), (1, .int a2), (2, .int a3)]) dX11_isAugmented_22 rfl (Nat.le_of_ble_eq_true rfl) rfl ?_
  refine wp_iconst (v := 1) dX11_isAugmented_23 (by decide) ?_
  refine wp_iload_n dX11_isAugmented_24 rfl rfl ?_
  refine wp_ishl dX11_isAugmented_25 ?_
  refine wp_istore (ls' := [(4, .int ((1 : Int32) <<< (a2 &&& 31))), (3, .int 1), (0, .ref 310), (1, .int a2), (2, .int a3)]) dX11_isAugmented_26 (Nat.le_of_ble_eq_true rfl) rfl ?_
  obtain ⟨⟨y55, I56⟩, hL958, h⟩ := obi h
  refine wp_pick (ks := [2, 4, 1, 0]) rfl (wX11_isAugmented_28 N d hd hS  a3 N 1 ((1 : Int32) <<< (a2 &&& 31)) I3 _ hL958 (fun _ _ e59 => ?_))
  cases e59
  refine wp_iload dX11_isAugmented_230 rfl ?_
  refine wp_iload_n dX11_isAugmented_232 rfl rfl ?_
  refine wp_ishr dX11_isAugmented_233 ?_
  refine wp_iconst (v := 1) dX11_isAugmented_234 (by decide) ?_
  refine wp_iand dX11_isAugmented_235 ?_
  refine wp_iconst (v := 1) dX11_isAugmented_236 (by decide) ?_
  refine wp_icmp_ne (tgt := 244) dX11_isAugmented_237 (by decide) (fun hc57 => ?_) (fun hc57 => ?_)
  · have h := ite_f hc57 h
    refine wp_iconst (v := 0) dX11_isAugmented_244 (by decide) ?_
    exact wp_zret dX11_isAugmented_245 rfl (by decide) (by obtain rfl := sji h; exact ⟨rfl, rfl, rfl, rfl⟩)
  · have h := ite_t hc57 h
    refine wp_iconst (v := 1) dX11_isAugmented_240 (by decide) ?_
    refine wp_goto (tgt := 245) dX11_isAugmented_241 (by decide) ?_
    exact wp_zret dX11_isAugmented_245 rfl (by decide) (by obtain rfl := sji h; exact ⟨rfl, rfl, rfl, rfl⟩)
def mX11_flow_54 (N : Nat) (k1 : Int32) (k2 : Int32) (k3 : Int32) : Nat → Int32 → gI → Option (gI)
  | 0, _, _ => none
  | n + 1, v4, I => if (I 310 14) ≤ v4 then (some I) else (Option.bind (mX11_poolAt N 0 v4 k3 I) (fun r19 => Option.bind (mX11_isUp 0 v4 I) (fun r21 => if r21 = 0 then (ck v4 16 (mX11_flow_54 N k1 k2 k3 n (v4 + 1) (upd2 (upd2 I 329 v4.toNatClampNeg 0) 330 v4.toNatClampNeg 0))) else (if r19 ≤ 0 then (ck v4 16 (mX11_flow_54 N k1 k2 k3 n (v4 + 1) (upd2 (upd2 I 329 v4.toNatClampNeg 0) 330 v4.toNatClampNeg 0))) else (ck v4 16 (mX11_flow_54 N k1 k2 k3 n (v4 + 1) (upd2 (upd2 I 329 v4.toNatClampNeg r19) 330 v4.toNatClampNeg 0)))))))
def mX11_flow_130 (k1 : Int32) (k2 : Int32) (k4 : Int32) : Nat → Int32 → gI → Option (gI)
  | 0, _, _ => none
  | n + 1, v5, I => if v5 = k1 then (some I) else (ck v5 8 (nm ((I 331 v5.toNatClampNeg) - (I 331 v5.toNatClampNeg) / 16 * 16) (fun x35 => Option.bind (if 16 ≤ (I 331 v5.toNatClampNeg) then (some 0) else (some 1) : Option (Int32)) (fun x37 => ck x35 16 (Option.bind (if x37 = 0 then (some 1) else (some (-1)) : Option (Int32)) (fun x40 => nm ((upd2 I 329 x35.toNatClampNeg ((I 329 x35.toNatClampNeg) + x40)) 330 x35.toNatClampNeg) (fun x42 => Option.bind (if x37 = 0 then (some (-1)) else (some 1) : Option (Int32)) (fun x44 => nm (upd2 (upd2 I 329 x35.toNatClampNeg ((I 329 x35.toNatClampNeg) + x40)) 330 x35.toNatClampNeg (x42 + x44)) (fun I46 => if x37 = 0 then (ck ((5 * x35) + 1) 80 (mX11_flow_130 k1 k2 k4 n (I46 313 ((5 * x35) + 1).toNatClampNeg) I46)) else (ck (5 * x35) 80 (mX11_flow_130 k1 k2 k4 n (I46 313 (5 * x35).toNatClampNeg) I46)))))))))))
def mX11_flow_118 (N : Nat) (k1 : Int32) (k2 : Int32) : Nat → Int32 → gI → Option (Int32 × gI)
  | 0, _, _ => none
  | n + 1, v4, I => Option.bind (mX11_isAugmented N k1 k2 I) (fun (r29, I30) => if r29 = 0 then (some (v4, I30)) else (Option.bind (mX11_flow_130 k1 k2 v4 N k2 I30) (fun I54 => mX11_flow_118 N k1 k2 n (v4 + 1) I54)))
def mX11_flow (N : Nat) (a2 : Int32) (a3 : Int32) (a4 : Int32) (I : gI) : Option (Int32 × gI) := Option.bind (mX11_isNode a2 (upd2 I 310 0 0)) (fun (r1, I2) => if r1 = 0 then (some (0, I2)) else (Option.bind (mX11_isNode a3 I2) (fun (r5, I6) => if r5 = 0 then (some (0, I6)) else (Option.bind (if a2 = a3 then (some 0) else (Option.bind (mX11_within a4 0 7 I6) (fun r11 => if r11 = 0 then (some 0) else (some 1))) : Option (Int32)) (fun x9 => Option.bind (mX11_right x9 2 I6) (fun (r14, I15) => if r14 = 0 then (some (0, I15)) else (Option.bind (mX11_flow_54 N a2 a3 a4 N 0 I15) (fun I28 => Option.bind (mX11_flow_118 N a2 a3 N 0 I28) (fun (y57, I58) => some (y57, I58))))))))))
set_option maxHeartbeats 4000000 in
set_option maxRecDepth 100000 in
theorem wX11_flow_54 (N : Nat) (d : Nat) (hd : 2 ≤ d) {S : gS} {J : gJ} (hS : Sh S)  (k1 : Int32) (k2 : Int32) (k3 : Int32) {Q : gO → gS → gI → gJ → Prop} :
    ∀ (n : Nat) (v4 : Int32) (I : gI) (res : gI), mX11_flow_54 N k1 k2 k3 n v4 I = some res → (∀ (O : gI), res = O → Wp RX11 cX11_flow 8 (some .int) [] hF d 0 0 115 [(0, .ref 310), (1, .int k1), (2, .int k2)] [] S O J Q) → Wp RX11 cX11_flow 8 (some .int) [] hF d 0 0 54 [(0, .ref 310), (1, .int k1), (2, .int k2), (3, .int k3), (4, .int v4)] [] S I J Q := by
  intro n
  induction n with
  | zero => intro v4 I res h; exact nso h
  | succ n ih =>
    intro v4 I res h kx
    rw [mX11_flow_54] at h
    refine wp_iload dX11_flow_54 rfl ?_
    refine wp_aload_n dX11_flow_56 rfl rfl ?_
    refine wp_getI dX11_flow_57 flX11_199 rfl (sk310 hS) (sn310 hS) ?_
    refine wp_icmp_ge (tgt := 115) dX11_flow_60 (by decide) (fun hc18 => ?_) (fun hc18 => ?_)
    · have h := ite_t hc18 h
      exact wp_pick (ks := [0, 1, 2]) rfl (kx _ (sji h).symm)
    · have h := ite_f hc18 h
      refine wp_aload_n dX11_flow_63 rfl rfl ?_
      refine wp_iconst (v := 0) dX11_flow_64 (by decide) ?_
      refine wp_iload dX11_flow_65 rfl ?_
      refine wp_iload_n dX11_flow_67 rfl rfl ?_
      obtain ⟨r19, hF20, h⟩ := obi h
      refine wp_callVi (ci := 11) (As := [.int 0, .int v4, .int k3]) dX11_flow_68 lbX11_poolAt mlX11_229 imX11_poolAt seX11_poolAt vc11 (ct_X11_poolAt N 1 (Nat.le_refl _) hS  hF20) rfl rfl (Nat.le_trans (by decide) hd) (sk310 hS) (sn310 hS) (Nat.le_of_ble_eq_true rfl) (fun _ => ?_)
      refine wp_istore (ls' := [(5, .int r19), (0, .ref 310), (1, .int k1), (2, .int k2), (3, .int k3), (4, .int v4)]) dX11_flow_71 (Nat.le_of_ble_eq_true rfl) rfl ?_
      refine wp_aload_n dX11_flow_73 rfl rfl ?_
      refine wp_getR dX11_flow_74 flX11_72 rfl (sk310 hS) (sn310 hS) (sr310_41 hS) ?_
      refine wp_iload dX11_flow_77 rfl ?_
      refine wp_aload_n dX11_flow_79 rfl rfl ?_
      refine wp_iconst (v := 0) dX11_flow_80 (by decide) ?_
      refine wp_iload dX11_flow_81 rfl ?_
      obtain ⟨r21, hF22, h⟩ := obi h
      refine wp_callVi (ci := 11) (As := [.int 0, .int v4]) dX11_flow_83 lbX11_isUp mlX11_233 imX11_isUp seX11_isUp vc11 (ct_X11_isUp 0 (Nat.le_refl _) hS  hF22) rfl rfl (Nat.le_trans (by decide) hd) (sk310 hS) (sn310 hS) (Nat.le_of_ble_eq_true rfl) (fun _ => ?_)
      refine wp_if_eq (tgt := 99) dX11_flow_86 (by decide) (fun hc23 => ?_) (fun hc23 => ?_)
      · have h := ite_t hc23 h
        refine wp_iconst (v := 0) dX11_flow_99 (by decide) ?_
        obtain ⟨hb24, h⟩ := ck_inv h
        refine wp_iast dX11_flow_100 (sk329 hS) (sn329 hS) hb24 ?_
        refine wp_aload_n dX11_flow_101 rfl rfl ?_
        refine wp_getR dX11_flow_102 flX11_75 rfl (sk310 hS) (sn310 hS) (sr310_42 hS) ?_
        refine wp_iload dX11_flow_105 rfl ?_
        refine wp_iconst (v := 0) dX11_flow_107 (by decide) ?_
        refine wp_iast dX11_flow_108 (sk330 hS) (sn330 hS) hb24 ?_
        refine wp_iinc (v := 1) (ls' := [(4, .int (v4 + 1)), (5, .int r19), (0, .ref 310), (1, .int k1), (2, .int k2), (3, .int k3)]) dX11_flow_109 rfl (by decide) (Nat.le_of_ble_eq_true rfl) rfl ?_
        refine wp_goto (tgt := 54) dX11_flow_112 (by decide) ?_
        exact wp_pick (ks := [2, 3, 4, 5, 0]) rfl (ih _ _ _ h kx)
      · have h := ite_f hc23 h
        refine wp_iload dX11_flow_89 rfl ?_
        refine wp_if_le (tgt := 99) dX11_flow_91 (by decide) (fun hc25 => ?_) (fun hc25 => ?_)
        · have h := ite_t hc25 h
          refine wp_iconst (v := 0) dX11_flow_99 (by decide) ?_
          obtain ⟨hb26, h⟩ := ck_inv h
          refine wp_iast dX11_flow_100 (sk329 hS) (sn329 hS) hb26 ?_
          refine wp_aload_n dX11_flow_101 rfl rfl ?_
          refine wp_getR dX11_flow_102 flX11_75 rfl (sk310 hS) (sn310 hS) (sr310_42 hS) ?_
          refine wp_iload dX11_flow_105 rfl ?_
          refine wp_iconst (v := 0) dX11_flow_107 (by decide) ?_
          refine wp_iast dX11_flow_108 (sk330 hS) (sn330 hS) hb26 ?_
          refine wp_iinc (v := 1) (ls' := [(4, .int (v4 + 1)), (5, .int r19), (0, .ref 310), (1, .int k1), (2, .int k2), (3, .int k3)]) dX11_flow_109 rfl (by decide) (Nat.le_of_ble_eq_true rfl) rfl ?_
          refine wp_goto (tgt := 54) dX11_flow_112 (by decide) ?_
          exact wp_pick (ks := [2, 3, 4, 5, 0]) rfl (ih _ _ _ h kx)
        · have h := ite_f hc25 h
          refine wp_iload dX11_flow_94 rfl ?_
          refine wp_goto (tgt := 100) dX11_flow_96 (by decide) ?_
          obtain ⟨hb27, h⟩ := ck_inv h
          refine wp_iast dX11_flow_100 (sk329 hS) (sn329 hS) hb27 ?_
          refine wp_aload_n dX11_flow_101 rfl rfl ?_
          refine wp_getR dX11_flow_102 flX11_75 rfl (sk310 hS) (sn310 hS) (sr310_42 hS) ?_
          refine wp_iload dX11_flow_105 rfl ?_
          refine wp_iconst (v := 0) dX11_flow_107 (by decide) ?_
          refine wp_iast dX11_flow_108 (sk330 hS) (sn330 hS) hb27 ?_
          refine wp_iinc (v := 1) (ls' := [(4, .int (v4 + 1)), (5, .int r19), (0, .ref 310), (1, .int k1), (2, .int k2), (3, .int k3)]) dX11_flow_109 rfl (by decide) (Nat.le_of_ble_eq_true rfl) rfl ?_
          refine wp_goto (tgt := 54) dX11_flow_112 (by decide) ?_
          exact wp_pick (ks := [2, 3, 4, 5, 0]) rfl (ih _ _ _ h kx)
set_option maxHeartbeats 4000000 in
set_option maxRecDepth 100000 in
theorem wX11_flow_130 (d : Nat) (hd : 2 ≤ d) {S : gS} {J : gJ} (hS : Sh S)  (k1 : Int32) (k2 : Int32) (k4 : Int32) {Q : gO → gS → gI → gJ → Prop} :
    ∀ (n : Nat) (v5 : Int32) (I : gI) (res : gI), mX11_flow_130 k1 k2 k4 n v5 I = some res → (∀ (O : gI), res = O → Wp RX11 cX11_flow 8 (some .int) [] hF d 0 0 240 [(0, .ref 310), (1, .int k1), (2, .int k2), (4, .int k4)] [] S O J Q) → Wp RX11 cX11_flow 8 (some .int) [] hF d 0 0 130 [(0, .ref 310), (1, .int k1), (2, .int k2), (4, .int k4), (5, .int v5)] [] S I J Q := by
  intro n
  induction n with
  | zero => intro v5 I res h; exact nso h
  | succ n ih =>
    intro v5 I res h kx
    rw [mX11_flow_130] at h
    refine wp_iload dX11_flow_130 rfl ?_
    refine wp_iload_n dX11_flow_132 rfl rfl ?_
    refine wp_icmp_eq (tgt := 240) dX11_flow_133 (by decide) (fun hc33 => ?_) (fun hc33 => ?_)
    · have h := ite_t hc33 h
      exact wp_pick (ks := [0, 1, 2, 3]) rfl (kx _ (sji h).symm)
    · have h := ite_f hc33 h
      refine wp_aload_n dX11_flow_136 rfl rfl ?_
      refine wp_getR dX11_flow_137 flX11_78 rfl (sk310 hS) (sn310 hS) (sr310_43 hS) ?_
      refine wp_iload dX11_flow_140 rfl ?_
      obtain ⟨hb34, h⟩ := ck_inv h
      refine wp_iald dX11_flow_142 (sk331 hS) (sn331 hS) hb34 ?_
      refine wp_bipush (v := 16) dX11_flow_143 (by decide) ?_
      refine wp_irem dX11_flow_145 (by decide) ?_
      obtain ⟨x35, hx36, h⟩ := nm_inv h
      refine wp_topi hx36 ?_
      refine wp_istore (ls' := [(6, .int x35), (0, .ref 310), (1, .int k1), (2, .int k2), (4, .int k4), (5, .int v5)]) dX11_flow_146 (Nat.le_of_ble_eq_true rfl) rfl ?_
      refine wp_aload_n dX11_flow_148 rfl rfl ?_
      refine wp_getR dX11_flow_149 flX11_78 rfl (sk310 hS) (sn310 hS) (sr310_43 hS) ?_
      refine wp_iload dX11_flow_152 rfl ?_
      refine wp_iald dX11_flow_154 (sk331 hS) (sn331 hS) hb34 ?_
      refine wp_bipush (v := 16) dX11_flow_155 (by decide) ?_
      obtain ⟨x37, hh53, h⟩ := obi h
      have hJ : Wp RX11 cX11_flow 8 (some .int) [] hF d 0 0 165 [(0, .ref 310), (1, .int k1), (2, .int k2), (4, .int k4), (6, .int x35)] [.int x37] S I J Q := by
        refine wp_istore (ls' := [(7, .int x37), (0, .ref 310), (1, .int k1), (2, .int k2), (4, .int k4), (6, .int x35)]) dX11_flow_165 (Nat.le_of_ble_eq_true rfl) rfl ?_
        refine wp_aload_n dX11_flow_167 rfl rfl ?_
        refine wp_getR dX11_flow_168 flX11_72 rfl (sk310 hS) (sn310 hS) (sr310_41 hS) ?_
        refine wp_iload dX11_flow_171 rfl ?_
        refine wp_dup2 dX11_flow_173 rfl rfl ?_
        obtain ⟨hb39, h⟩ := ck_inv h
        refine wp_iald dX11_flow_174 (sk329 hS) (sn329 hS) hb39 ?_
        refine wp_iload dX11_flow_175 rfl ?_
        obtain ⟨x40, hh52, h⟩ := obi h
        have hJ : Wp RX11 cX11_flow 8 (some .int) [] hF d 0 0 185 [(0, .ref 310), (1, .int k1), (2, .int k2), (4, .int k4), (6, .int x35), (7, .int x37)] [.int x40, .int (I 329 x35.toNatClampNeg), .int x35, .ref 329] S I J Q := by
          refine wp_iadd dX11_flow_185 ?_
          refine wp_iast dX11_flow_186 (sk329 hS) (sn329 hS) hb39 ?_
          refine wp_aload_n dX11_flow_187 rfl rfl ?_
          refine wp_getR dX11_flow_188 flX11_75 rfl (sk310 hS) (sn310 hS) (sr310_42 hS) ?_
          refine wp_iload dX11_flow_191 rfl ?_
          refine wp_dup2 dX11_flow_193 rfl rfl ?_
          refine wp_iald dX11_flow_194 (sk330 hS) (sn330 hS) hb39 ?_
          obtain ⟨x42, hx43, h⟩ := nm_inv h
          refine wp_topi hx43 ?_
          refine wp_iload dX11_flow_195 rfl ?_
          obtain ⟨x44, hh51, h⟩ := obi h
          have hJ : Wp RX11 cX11_flow 8 (some .int) [] hF d 0 0 205 [(0, .ref 310), (1, .int k1), (2, .int k2), (4, .int k4), (6, .int x35), (7, .int x37)] [.int x44, .int x42, .int x35, .ref 330] S (upd2 I 329 x35.toNatClampNeg ((I 329 x35.toNatClampNeg) + x40)) J Q := by
            refine wp_iadd dX11_flow_205 ?_
            refine wp_iast dX11_flow_206 (sk330 hS) (sn330 hS) hb39 ?_
            obtain ⟨I46, hx47, h⟩ := nm_inv h
            refine wp_nmI hx47 ?_
            refine wp_iload dX11_flow_207 rfl ?_
            refine wp_if_eq (tgt := 224) dX11_flow_209 (by decide) (fun hc48 => ?_) (fun hc48 => ?_)
            · have h := ite_t hc48 h
              refine wp_aload_n dX11_flow_224 rfl rfl ?_
              refine wp_getR dX11_flow_225 flX11_23 rfl (sk310 hS) (sn310 hS) (sr310_19 hS) ?_
              refine wp_iconst (v := 5) dX11_flow_228 (by decide) ?_
              refine wp_iload dX11_flow_229 rfl ?_
              refine wp_imul dX11_flow_231 ?_
              refine wp_iconst (v := 1) dX11_flow_232 (by decide) ?_
              refine wp_iadd dX11_flow_233 ?_
              obtain ⟨hb49, h⟩ := ck_inv h
              refine wp_iald dX11_flow_234 (sk313 hS) (sn313 hS) hb49 ?_
              refine wp_istore (ls' := [(5, .int (I46 313 ((5 * x35) + 1).toNatClampNeg)), (0, .ref 310), (1, .int k1), (2, .int k2), (4, .int k4), (6, .int x35), (7, .int x37)]) dX11_flow_235 (Nat.le_of_ble_eq_true rfl) rfl ?_
              refine wp_goto (tgt := 130) dX11_flow_237 (by decide) ?_
              exact wp_pick (ks := [1, 2, 3, 4, 0]) rfl (ih _ _ _ h kx)
            · have h := ite_f hc48 h
              refine wp_aload_n dX11_flow_212 rfl rfl ?_
              refine wp_getR dX11_flow_213 flX11_23 rfl (sk310 hS) (sn310 hS) (sr310_19 hS) ?_
              refine wp_iconst (v := 5) dX11_flow_216 (by decide) ?_
              refine wp_iload dX11_flow_217 rfl ?_
              refine wp_imul dX11_flow_219 ?_
              obtain ⟨hb50, h⟩ := ck_inv h
              refine wp_iald dX11_flow_220 (sk313 hS) (sn313 hS) hb50 ?_
              refine wp_goto (tgt := 235) dX11_flow_221 (by decide) ?_
              refine wp_istore (ls' := [(5, .int (I46 313 (5 * x35).toNatClampNeg)), (0, .ref 310), (1, .int k1), (2, .int k2), (4, .int k4), (6, .int x35), (7, .int x37)]) dX11_flow_235 (Nat.le_of_ble_eq_true rfl) rfl ?_
              refine wp_goto (tgt := 130) dX11_flow_237 (by decide) ?_
              exact wp_pick (ks := [1, 2, 3, 4, 0]) rfl (ih _ _ _ h kx)
          clear h
          have h := hh51
          clear hh51
          refine wp_if_eq (tgt := 204) dX11_flow_197 (by decide) (fun hc45 => ?_) (fun hc45 => ?_)
          · have h := ite_t hc45 h
            refine wp_iconst (v := (-1)) dX11_flow_204 (by decide) ?_
            cases h
            exact wp_pick (ks := [0, 1, 2, 3, 4, 5]) rfl hJ
          · have h := ite_f hc45 h
            refine wp_iconst (v := 1) dX11_flow_200 (by decide) ?_
            refine wp_goto (tgt := 205) dX11_flow_201 (by decide) ?_
            cases h
            exact wp_pick (ks := [0, 1, 2, 3, 4, 5]) rfl hJ
        clear h
        have h := hh52
        clear hh52
        refine wp_if_eq (tgt := 184) dX11_flow_177 (by decide) (fun hc41 => ?_) (fun hc41 => ?_)
        · have h := ite_t hc41 h
          refine wp_iconst (v := 1) dX11_flow_184 (by decide) ?_
          cases h
          exact wp_pick (ks := [1, 2, 3, 4, 5, 0]) rfl hJ
        · have h := ite_f hc41 h
          refine wp_iconst (v := (-1)) dX11_flow_180 (by decide) ?_
          refine wp_goto (tgt := 185) dX11_flow_181 (by decide) ?_
          cases h
          exact wp_pick (ks := [1, 2, 3, 4, 5, 0]) rfl hJ
      clear h
      have h := hh53
      clear hh53
      refine wp_icmp_ge (tgt := 164) dX11_flow_157 (by decide) (fun hc38 => ?_) (fun hc38 => ?_)
      · have h := ite_t hc38 h
        refine wp_iconst (v := 0) dX11_flow_164 (by decide) ?_
        cases h
        exact wp_pick (ks := [1, 2, 3, 4, 0]) rfl hJ
      · have h := ite_f hc38 h
        refine wp_iconst (v := 1) dX11_flow_160 (by decide) ?_
        refine wp_goto (tgt := 165) dX11_flow_161 (by decide) ?_
        cases h
        exact wp_pick (ks := [1, 2, 3, 4, 0]) rfl hJ
set_option maxHeartbeats 4000000 in
set_option maxRecDepth 100000 in
theorem wX11_flow_118 (N : Nat) (d : Nat) (hd : 2 ≤ d) {S : gS} {J : gJ} (hS : Sh S)  (k1 : Int32) (k2 : Int32) {Q : gO → gS → gI → gJ → Prop} :
    ∀ (n : Nat) (v4 : Int32) (I : gI) (res : Int32 × gI), mX11_flow_118 N k1 k2 n v4 I = some res → (∀ (o4 : Int32) (O : gI), res = (o4, O) → Wp RX11 cX11_flow 8 (some .int) [] hF d 0 0 246 [(4, .int o4)] [] S O J Q) → Wp RX11 cX11_flow 8 (some .int) [] hF d 0 0 118 [(0, .ref 310), (1, .int k1), (2, .int k2), (4, .int v4)] [] S I J Q := by
  intro n
  induction n with
  | zero => intro v4 I res h; exact nso h
  | succ n ih =>
    intro v4 I res h kx
    rw [mX11_flow_118] at h
    refine wp_aload_n dX11_flow_118 rfl rfl ?_
    refine wp_iload_n dX11_flow_119 rfl rfl ?_
    refine wp_iload_n dX11_flow_120 rfl rfl ?_
    obtain ⟨⟨r29, I30⟩, hF31, h⟩ := obi h
    refine wp_callVi (ci := 11) (As := [.int k1, .int k2]) dX11_flow_121 lbX11_isAugmented mlX11_387 imX11_isAugmented seX11_isAugmented vc11 (ct_X11_isAugmented N 0 (Nat.le_refl _) hS  hF31) rfl rfl (Nat.le_trans (by decide) hd) (sk310 hS) (sn310 hS) (Nat.le_of_ble_eq_true rfl) (fun _ => ?_)
    refine wp_if_eq (tgt := 246) dX11_flow_124 (by decide) (fun hc32 => ?_) (fun hc32 => ?_)
    · have h := ite_t hc32 h
      exact wp_pick (ks := [3]) rfl (kx _ _ (sji h).symm)
    · have h := ite_f hc32 h
      refine wp_iload_n dX11_flow_127 rfl rfl ?_
      refine wp_istore (ls' := [(5, .int k2), (0, .ref 310), (1, .int k1), (2, .int k2), (4, .int v4)]) dX11_flow_128 (Nat.le_of_ble_eq_true rfl) rfl ?_
      obtain ⟨I54, hL955, h⟩ := obi h
      refine wp_pick (ks := [1, 2, 3, 4, 0]) rfl (wX11_flow_130 d hd hS  k1 k2 v4 N k2 I30 _ hL955 (fun _ e56 => ?_))
      cases e56
      refine wp_iinc (v := 1) (ls' := [(4, .int (v4 + 1)), (0, .ref 310), (1, .int k1), (2, .int k2)]) dX11_flow_240 rfl (by decide) (Nat.le_of_ble_eq_true rfl) rfl ?_
      refine wp_goto (tgt := 118) dX11_flow_243 (by decide) ?_
      exact wp_pick (ks := [1, 2, 3, 0]) rfl (ih _ _ _ h kx)
set_option maxHeartbeats 4000000 in
set_option maxRecDepth 100000 in
theorem ct_X11_flow (N : Nat) (d : Nat) (hd : 2 ≤ d) {S : gS} {J : gJ} (hS : Sh S)  {a2 : Int32} {a3 : Int32} {a4 : Int32} {I : gI} {r : Int32 × gI} (h : mX11_flow N a2 a3 a4 I = some r) : Ct yX11_flow (wsY yX11_flow cX11_flow 8 (some .int)) d 0 0 [.ref 310, .int a2, .int a3, .int a4] S I J (qE (.inl (some (.int r.1))) S r.2 J) := by
  refine Ct.of hF (fun _ _ _ _ _ => trivial) (by decide +kernel) (Nat.le_of_ble_eq_true rfl) ⟨Or.inl (sn310 hS), trivial, trivial, trivial, trivial⟩ ?_
  show Wp RX11 cX11_flow 8 (some .int) [] hF d 0 0 0 [(0, .ref 310), (1, .int a2), (2, .int a3), (3, .int a4)] [] S I J _
  unfold mX11_flow at h
  refine wp_aload_n dX11_flow_0 rfl rfl ?_
  refine wp_iconst (v := 0) dX11_flow_1 (by decide) ?_
  refine wp_putI dX11_flow_2 (Or.inl fpX11_96) rfl ⟨rfl, rfl⟩ (sk310 hS) (sn310 hS) ?_
  refine wp_aload_n dX11_flow_5 rfl rfl ?_
  refine wp_iload_n dX11_flow_6 rfl rfl ?_
  obtain ⟨⟨r1, I2⟩, hF3, h⟩ := obi h
  refine wp_callVi (ci := 11) (As := [.int a2]) dX11_flow_7 lbX11_isNode mlX11_377 imX11_isNode seX11_isNode vc11 (ct_X11_isNode 1 (Nat.le_refl _) hS  hF3) rfl rfl (Nat.le_trans (by decide) hd) (sk310 hS) (sn310 hS) (Nat.le_of_ble_eq_true rfl) (fun _ => ?_)
  refine wp_if_eq (tgt := 49) dX11_flow_10 (by decide) (fun hc4 => ?_) (fun hc4 => ?_)
  · have h := ite_t hc4 h
    refine wp_iconst (v := 0) dX11_flow_49 (by decide) ?_
    exact wp_iret dX11_flow_50 rfl (by obtain rfl := sji h; exact ⟨rfl, rfl, rfl, rfl⟩)
  · have h := ite_f hc4 h
    refine wp_aload_n dX11_flow_13 rfl rfl ?_
    refine wp_iload_n dX11_flow_14 rfl rfl ?_
    obtain ⟨⟨r5, I6⟩, hF7, h⟩ := obi h
    refine wp_callVi (ci := 11) (As := [.int a3]) dX11_flow_15 lbX11_isNode mlX11_377 imX11_isNode seX11_isNode vc11 (ct_X11_isNode 1 (Nat.le_refl _) hS  hF7) rfl rfl (Nat.le_trans (by decide) hd) (sk310 hS) (sn310 hS) (Nat.le_of_ble_eq_true rfl) (fun _ => ?_)
    refine wp_if_eq (tgt := 49) dX11_flow_18 (by decide) (fun hc8 => ?_) (fun hc8 => ?_)
    · have h := ite_t hc8 h
      refine wp_iconst (v := 0) dX11_flow_49 (by decide) ?_
      exact wp_iret dX11_flow_50 rfl (by obtain rfl := sji h; exact ⟨rfl, rfl, rfl, rfl⟩)
    · have h := ite_f hc8 h
      refine wp_aload_n dX11_flow_21 rfl rfl ?_
      refine wp_iload_n dX11_flow_22 rfl rfl ?_
      refine wp_iload_n dX11_flow_23 rfl rfl ?_
      obtain ⟨x9, hh63, h⟩ := obi h
      have hJ : Wp RX11 cX11_flow 8 (some .int) [] hF d 0 0 42 [(0, .ref 310), (1, .int a2), (2, .int a3), (3, .int a4)] [.int x9, .ref 310] S I6 J (qE (.inl (some (.int r.1))) S r.2 J) := by
        refine wp_iconst (v := 2) dX11_flow_42 (by decide) ?_
        obtain ⟨⟨r14, I15⟩, hF16, h⟩ := obi h
        refine wp_callVi (ci := 11) (As := [.int x9, .int 2]) dX11_flow_43 lbX11_right mlX11_192 imX11_right seX11_right vc11 (ct_X11_right 0 (Nat.le_refl _) hS  hF16) rfl rfl (Nat.le_trans (by decide) hd) (sk310 hS) (sn310 hS) (Nat.le_of_ble_eq_true rfl) (fun _ => ?_)
        refine wp_if_ne (tgt := 51) dX11_flow_46 (by decide) (fun hc17 => ?_) (fun hc17 => ?_)
        · have h := ite_f hc17 h
          refine wp_iconst (v := 0) dX11_flow_51 (by decide) ?_
          refine wp_istore (ls' := [(4, .int 0), (0, .ref 310), (1, .int a2), (2, .int a3), (3, .int a4)]) dX11_flow_52 (Nat.le_of_ble_eq_true rfl) rfl ?_
          obtain ⟨I28, hL961, h⟩ := obi h
          refine wp_pick (ks := [1, 2, 3, 4, 0]) rfl (wX11_flow_54 N d hd hS  a2 a3 a4 N 0 I15 _ hL961 (fun _ e62 => ?_))
          cases e62
          refine wp_iconst (v := 0) dX11_flow_115 (by decide) ?_
          refine wp_istore (ls' := [(4, .int 0), (0, .ref 310), (1, .int a2), (2, .int a3)]) dX11_flow_116 (Nat.le_of_ble_eq_true rfl) rfl ?_
          obtain ⟨⟨y57, I58⟩, hL959, h⟩ := obi h
          refine wp_pick (ks := [1, 2, 3, 0]) rfl (wX11_flow_118 N d hd hS  a2 a3 N 0 I28 _ hL959 (fun _ _ e60 => ?_))
          cases e60
          refine wp_iload dX11_flow_246 rfl ?_
          exact wp_iret dX11_flow_248 rfl (by obtain rfl := sji h; exact ⟨rfl, rfl, rfl, rfl⟩)
        · have h := ite_t hc17 h
          refine wp_iconst (v := 0) dX11_flow_49 (by decide) ?_
          exact wp_iret dX11_flow_50 rfl (by obtain rfl := sji h; exact ⟨rfl, rfl, rfl, rfl⟩)
      clear h
      have h := hh63
      clear hh63
      refine wp_icmp_eq (tgt := 41) dX11_flow_24 (by decide) (fun hc10 => ?_) (fun hc10 => ?_)
      · have h := ite_t hc10 h
        refine wp_iconst (v := 0) dX11_flow_41 (by decide) ?_
        cases h
        exact wp_pick (ks := [0, 1, 2, 3]) rfl hJ
      · have h := ite_f hc10 h
        refine wp_iload_n dX11_flow_27 rfl rfl ?_
        refine wp_iconst (v := 0) dX11_flow_28 (by decide) ?_
        refine wp_bipush (v := 7) dX11_flow_29 (by decide) ?_
        obtain ⟨r11, hF12, h⟩ := obi h
        refine wp_callSi (As := [.int a4, .int 0, .int 7]) dX11_flow_31 lbX11_within mlX11_318 smX11_within (ct_X11_within 0 (Nat.le_refl _) hS  hF12) rfl rfl (Nat.le_trans (by decide) hd) (Nat.le_of_ble_eq_true rfl) (fun _ => ?_)
        refine wp_if_eq (tgt := 41) dX11_flow_34 (by decide) (fun hc13 => ?_) (fun hc13 => ?_)
        · have h := ite_t hc13 h
          refine wp_iconst (v := 0) dX11_flow_41 (by decide) ?_
          cases h
          exact wp_pick (ks := [0, 1, 2, 3]) rfl hJ
        · have h := ite_f hc13 h
          refine wp_iconst (v := 1) dX11_flow_37 (by decide) ?_
          refine wp_goto (tgt := 42) dX11_flow_38 (by decide) ?_
          cases h
          exact wp_pick (ks := [0, 1, 2, 3]) rfl hJ
def mX11_distance_25 (k1 : Int32) (k2 : Int32) : Nat → Int32 → gI → Option (gI)
  | 0, _, _ => none
  | n + 1, v3, I => if 8 ≤ v3 then (some I) else (if v3 = k1 then (ck v3 8 (mX11_distance_25 k1 k2 n (v3 + 1) (upd2 I 332 v3.toNatClampNeg 0))) else (ck v3 8 (mX11_distance_25 k1 k2 n (v3 + 1) (upd2 I 332 v3.toNatClampNeg 999999))))
def mX11_distance_65 (k2 : Int32) (k3 : Int32) : Nat → Int32 → gI → Option (gI)
  | 0, _, _ => none
  | n + 1, v4, I => if (I 310 14) ≤ v4 then (some I) else (Option.bind (mX11_isUp 0 v4 I) (fun r16 => if r16 = 0 then (mX11_distance_65 k2 k3 n (v4 + 1) I) else (ck ((5 * v4) + 1) 80 (ck (I 313 ((5 * v4) + 1).toNatClampNeg) 8 (ck (5 * v4) 80 (ck (I 313 (5 * v4).toNatClampNeg) 8 (ck ((5 * v4) + 2) 80 (nm ((I 332 (I 313 (5 * v4).toNatClampNeg).toNatClampNeg) + (I 313 ((5 * v4) + 2).toNatClampNeg)) (fun x24 => Option.bind (mX11_lesser (I 332 (I 313 ((5 * v4) + 1).toNatClampNeg).toNatClampNeg) x24 I) (fun r26 => mX11_distance_65 k2 k3 n (v4 + 1) (upd2 I 332 (I 313 ((5 * v4) + 1).toNatClampNeg).toNatClampNeg r26)))))))))))
def mX11_distance_56 (N : Nat) (k2 : Int32) : Nat → Int32 → gI → Option (gI)
  | 0, _, _ => none
  | n + 1, v3, I => if 8 ≤ v3 then (some I) else (Option.bind (mX11_distance_65 k2 v3 N 0 I) (fun I28 => mX11_distance_56 N k2 n (v3 + 1) I28))
def mX11_distance (N : Nat) (a2 : Int32) (a3 : Int32) (I : gI) : Option (Int32 × gI) := Option.bind (mX11_isNode a2 (upd2 I 310 0 0)) (fun (r1, I2) => if r1 = 0 then (some (0, I2)) else (Option.bind (mX11_isNode a3 I2) (fun (r5, I6) => if r5 = 0 then (some (0, I6)) else (Option.bind (mX11_distance_25 a2 a3 N 0 I6) (fun I13 => Option.bind (mX11_distance_56 N a3 N 0 I13) (fun I31 => ck a3 8 (if (I31 332 a3.toNatClampNeg) < 999999 then (some (I31 332 a3.toNatClampNeg, I31)) else (some ((-1), I31)))))))))
set_option maxHeartbeats 4000000 in
set_option maxRecDepth 100000 in
theorem wX11_distance_25 (d : Nat) (hd : 2 ≤ d) {S : gS} {J : gJ} (hS : Sh S)  (k1 : Int32) (k2 : Int32) {Q : gO → gS → gI → gJ → Prop} :
    ∀ (n : Nat) (v3 : Int32) (I : gI) (res : gI), mX11_distance_25 k1 k2 n v3 I = some res → (∀ (O : gI), res = O → Wp RX11 cX11_distance 5 (some .int) [] hF d 0 0 54 [(0, .ref 310), (2, .int k2)] [] S O J Q) → Wp RX11 cX11_distance 5 (some .int) [] hF d 0 0 25 [(0, .ref 310), (1, .int k1), (2, .int k2), (3, .int v3)] [] S I J Q := by
  intro n
  induction n with
  | zero => intro v3 I res h; exact nso h
  | succ n ih =>
    intro v3 I res h kx
    rw [mX11_distance_25] at h
    refine wp_iload_n dX11_distance_25 rfl rfl ?_
    refine wp_bipush (v := 8) dX11_distance_26 (by decide) ?_
    refine wp_icmp_ge (tgt := 54) dX11_distance_28 (by decide) (fun hc9 => ?_) (fun hc9 => ?_)
    · have h := ite_t hc9 h
      exact wp_pick (ks := [0, 2]) rfl (kx _ (sji h).symm)
    · have h := ite_f hc9 h
      refine wp_aload_n dX11_distance_31 rfl rfl ?_
      refine wp_getR dX11_distance_32 flX11_81 rfl (sk310 hS) (sn310 hS) (sr310_44 hS) ?_
      refine wp_iload_n dX11_distance_35 rfl rfl ?_
      refine wp_iload_n dX11_distance_36 rfl rfl ?_
      refine wp_iload_n dX11_distance_37 rfl rfl ?_
      refine wp_icmp_ne (tgt := 45) dX11_distance_38 (by decide) (fun hc10 => ?_) (fun hc10 => ?_)
      · have h := ite_f hc10 h
        refine wp_ldc dX11_distance_45 koX11_236 ?_
        obtain ⟨hb11, h⟩ := ck_inv h
        refine wp_iast dX11_distance_47 (sk332 hS) (sn332 hS) hb11 ?_
        refine wp_iinc (v := 1) (ls' := [(3, .int (v3 + 1)), (0, .ref 310), (1, .int k1), (2, .int k2)]) dX11_distance_48 rfl (by decide) (Nat.le_of_ble_eq_true rfl) rfl ?_
        refine wp_goto (tgt := 25) dX11_distance_51 (by decide) ?_
        exact wp_pick (ks := [1, 2, 3, 0]) rfl (ih _ _ _ h kx)
      · have h := ite_t hc10 h
        refine wp_iconst (v := 0) dX11_distance_41 (by decide) ?_
        refine wp_goto (tgt := 47) dX11_distance_42 (by decide) ?_
        obtain ⟨hb12, h⟩ := ck_inv h
        refine wp_iast dX11_distance_47 (sk332 hS) (sn332 hS) hb12 ?_
        refine wp_iinc (v := 1) (ls' := [(3, .int (v3 + 1)), (0, .ref 310), (1, .int k1), (2, .int k2)]) dX11_distance_48 rfl (by decide) (Nat.le_of_ble_eq_true rfl) rfl ?_
        refine wp_goto (tgt := 25) dX11_distance_51 (by decide) ?_
        exact wp_pick (ks := [1, 2, 3, 0]) rfl (ih _ _ _ h kx)
set_option maxHeartbeats 4000000 in
set_option maxRecDepth 100000 in
theorem wX11_distance_65 (d : Nat) (hd : 2 ≤ d) {S : gS} {J : gJ} (hS : Sh S)  (k2 : Int32) (k3 : Int32) {Q : gO → gS → gI → gJ → Prop} :
    ∀ (n : Nat) (v4 : Int32) (I : gI) (res : gI), mX11_distance_65 k2 k3 n v4 I = some res → (∀ (O : gI), res = O → Wp RX11 cX11_distance 5 (some .int) [] hF d 0 0 151 [(0, .ref 310), (2, .int k2), (3, .int k3)] [] S O J Q) → Wp RX11 cX11_distance 5 (some .int) [] hF d 0 0 65 [(0, .ref 310), (2, .int k2), (3, .int k3), (4, .int v4)] [] S I J Q := by
  intro n
  induction n with
  | zero => intro v4 I res h; exact nso h
  | succ n ih =>
    intro v4 I res h kx
    rw [mX11_distance_65] at h
    refine wp_iload dX11_distance_65 rfl ?_
    refine wp_aload_n dX11_distance_67 rfl rfl ?_
    refine wp_getI dX11_distance_68 flX11_199 rfl (sk310 hS) (sn310 hS) ?_
    refine wp_icmp_ge (tgt := 151) dX11_distance_71 (by decide) (fun hc15 => ?_) (fun hc15 => ?_)
    · have h := ite_t hc15 h
      exact wp_pick (ks := [0, 1, 2]) rfl (kx _ (sji h).symm)
    · have h := ite_f hc15 h
      refine wp_aload_n dX11_distance_74 rfl rfl ?_
      refine wp_iconst (v := 0) dX11_distance_75 (by decide) ?_
      refine wp_iload dX11_distance_76 rfl ?_
      obtain ⟨r16, hF17, h⟩ := obi h
      refine wp_callVi (ci := 11) (As := [.int 0, .int v4]) dX11_distance_78 lbX11_isUp mlX11_233 imX11_isUp seX11_isUp vc11 (ct_X11_isUp 0 (Nat.le_refl _) hS  hF17) rfl rfl (Nat.le_trans (by decide) hd) (sk310 hS) (sn310 hS) (Nat.le_of_ble_eq_true rfl) (fun _ => ?_)
      refine wp_if_eq (tgt := 145) dX11_distance_81 (by decide) (fun hc18 => ?_) (fun hc18 => ?_)
      · have h := ite_t hc18 h
        refine wp_iinc (v := 1) (ls' := [(4, .int (v4 + 1)), (0, .ref 310), (2, .int k2), (3, .int k3)]) dX11_distance_145 rfl (by decide) (Nat.le_of_ble_eq_true rfl) rfl ?_
        refine wp_goto (tgt := 65) dX11_distance_148 (by decide) ?_
        exact wp_pick (ks := [1, 2, 3, 0]) rfl (ih _ _ _ h kx)
      · have h := ite_f hc18 h
        refine wp_aload_n dX11_distance_84 rfl rfl ?_
        refine wp_getR dX11_distance_85 flX11_81 rfl (sk310 hS) (sn310 hS) (sr310_44 hS) ?_
        refine wp_aload_n dX11_distance_88 rfl rfl ?_
        refine wp_getR dX11_distance_89 flX11_23 rfl (sk310 hS) (sn310 hS) (sr310_19 hS) ?_
        refine wp_iconst (v := 5) dX11_distance_92 (by decide) ?_
        refine wp_iload dX11_distance_93 rfl ?_
        refine wp_imul dX11_distance_95 ?_
        refine wp_iconst (v := 1) dX11_distance_96 (by decide) ?_
        refine wp_iadd dX11_distance_97 ?_
        obtain ⟨hb19, h⟩ := ck_inv h
        refine wp_iald dX11_distance_98 (sk313 hS) (sn313 hS) hb19 ?_
        refine wp_aload_n dX11_distance_99 rfl rfl ?_
        refine wp_getR dX11_distance_100 flX11_81 rfl (sk310 hS) (sn310 hS) (sr310_44 hS) ?_
        refine wp_aload_n dX11_distance_103 rfl rfl ?_
        refine wp_getR dX11_distance_104 flX11_23 rfl (sk310 hS) (sn310 hS) (sr310_19 hS) ?_
        refine wp_iconst (v := 5) dX11_distance_107 (by decide) ?_
        refine wp_iload dX11_distance_108 rfl ?_
        refine wp_imul dX11_distance_110 ?_
        refine wp_iconst (v := 1) dX11_distance_111 (by decide) ?_
        refine wp_iadd dX11_distance_112 ?_
        refine wp_iald dX11_distance_113 (sk313 hS) (sn313 hS) hb19 ?_
        obtain ⟨hb20, h⟩ := ck_inv h
        refine wp_iald dX11_distance_114 (sk332 hS) (sn332 hS) hb20 ?_
        refine wp_aload_n dX11_distance_115 rfl rfl ?_
        refine wp_getR dX11_distance_116 flX11_81 rfl (sk310 hS) (sn310 hS) (sr310_44 hS) ?_
        refine wp_aload_n dX11_distance_119 rfl rfl ?_
        refine wp_getR dX11_distance_120 flX11_23 rfl (sk310 hS) (sn310 hS) (sr310_19 hS) ?_
        refine wp_iconst (v := 5) dX11_distance_123 (by decide) ?_
        refine wp_iload dX11_distance_124 rfl ?_
        refine wp_imul dX11_distance_126 ?_
        obtain ⟨hb21, h⟩ := ck_inv h
        refine wp_iald dX11_distance_127 (sk313 hS) (sn313 hS) hb21 ?_
        obtain ⟨hb22, h⟩ := ck_inv h
        refine wp_iald dX11_distance_128 (sk332 hS) (sn332 hS) hb22 ?_
        refine wp_aload_n dX11_distance_129 rfl rfl ?_
        refine wp_getR dX11_distance_130 flX11_23 rfl (sk310 hS) (sn310 hS) (sr310_19 hS) ?_
        refine wp_iconst (v := 5) dX11_distance_133 (by decide) ?_
        refine wp_iload dX11_distance_134 rfl ?_
        refine wp_imul dX11_distance_136 ?_
        refine wp_iconst (v := 2) dX11_distance_137 (by decide) ?_
        refine wp_iadd dX11_distance_138 ?_
        obtain ⟨hb23, h⟩ := ck_inv h
        refine wp_iald dX11_distance_139 (sk313 hS) (sn313 hS) hb23 ?_
        refine wp_iadd dX11_distance_140 ?_
        obtain ⟨x24, hx25, h⟩ := nm_inv h
        refine wp_topi hx25 ?_
        obtain ⟨r26, hF27, h⟩ := obi h
        refine wp_callSi (As := [.int (I 332 (I 313 ((5 * v4) + 1).toNatClampNeg).toNatClampNeg), .int x24]) dX11_distance_141 lbX11_lesser mlX11_237 smX11_lesser (ct_X11_lesser 0 (Nat.le_refl _) hS  hF27) rfl rfl (Nat.le_trans (by decide) hd) (Nat.le_of_ble_eq_true rfl) (fun _ => ?_)
        refine wp_iast dX11_distance_144 (sk332 hS) (sn332 hS) hb20 ?_
        refine wp_iinc (v := 1) (ls' := [(4, .int (v4 + 1)), (0, .ref 310), (2, .int k2), (3, .int k3)]) dX11_distance_145 rfl (by decide) (Nat.le_of_ble_eq_true rfl) rfl ?_
        refine wp_goto (tgt := 65) dX11_distance_148 (by decide) ?_
        exact wp_pick (ks := [1, 2, 3, 0]) rfl (ih _ _ _ h kx)
set_option maxHeartbeats 4000000 in
set_option maxRecDepth 100000 in
theorem wX11_distance_56 (N : Nat) (d : Nat) (hd : 2 ≤ d) {S : gS} {J : gJ} (hS : Sh S)  (k2 : Int32) {Q : gO → gS → gI → gJ → Prop} :
    ∀ (n : Nat) (v3 : Int32) (I : gI) (res : gI), mX11_distance_56 N k2 n v3 I = some res → (∀ (O : gI), res = O → Wp RX11 cX11_distance 5 (some .int) [] hF d 0 0 157 [(0, .ref 310), (2, .int k2)] [] S O J Q) → Wp RX11 cX11_distance 5 (some .int) [] hF d 0 0 56 [(0, .ref 310), (2, .int k2), (3, .int v3)] [] S I J Q := by
  intro n
  induction n with
  | zero => intro v3 I res h; exact nso h
  | succ n ih =>
    intro v3 I res h kx
    rw [mX11_distance_56] at h
    refine wp_iload_n dX11_distance_56 rfl rfl ?_
    refine wp_bipush (v := 8) dX11_distance_57 (by decide) ?_
    refine wp_icmp_ge (tgt := 157) dX11_distance_59 (by decide) (fun hc14 => ?_) (fun hc14 => ?_)
    · have h := ite_t hc14 h
      exact wp_pick (ks := [0, 1]) rfl (kx _ (sji h).symm)
    · have h := ite_f hc14 h
      refine wp_iconst (v := 0) dX11_distance_62 (by decide) ?_
      refine wp_istore (ls' := [(4, .int 0), (0, .ref 310), (2, .int k2), (3, .int v3)]) dX11_distance_63 (Nat.le_of_ble_eq_true rfl) rfl ?_
      obtain ⟨I28, hL929, h⟩ := obi h
      refine wp_pick (ks := [1, 2, 3, 0]) rfl (wX11_distance_65 d hd hS  k2 v3 N 0 I _ hL929 (fun _ e30 => ?_))
      cases e30
      refine wp_iinc (v := 1) (ls' := [(3, .int (v3 + 1)), (0, .ref 310), (2, .int k2)]) dX11_distance_151 rfl (by decide) (Nat.le_of_ble_eq_true rfl) rfl ?_
      refine wp_goto (tgt := 56) dX11_distance_154 (by decide) ?_
      exact wp_pick (ks := [1, 2, 0]) rfl (ih _ _ _ h kx)
set_option maxHeartbeats 4000000 in
set_option maxRecDepth 100000 in
theorem ct_X11_distance (N : Nat) (d : Nat) (hd : 2 ≤ d) {S : gS} {J : gJ} (hS : Sh S)  {a2 : Int32} {a3 : Int32} {I : gI} {r : Int32 × gI} (h : mX11_distance N a2 a3 I = some r) : Ct yX11_distance (wsY yX11_distance cX11_distance 5 (some .int)) d 0 0 [.ref 310, .int a2, .int a3] S I J (qE (.inl (some (.int r.1))) S r.2 J) := by
  refine Ct.of hF (fun _ _ _ _ _ => trivial) (by decide +kernel) (Nat.le_of_ble_eq_true rfl) ⟨Or.inl (sn310 hS), trivial, trivial, trivial⟩ ?_
  show Wp RX11 cX11_distance 5 (some .int) [] hF d 0 0 0 [(0, .ref 310), (1, .int a2), (2, .int a3)] [] S I J _
  unfold mX11_distance at h
  refine wp_aload_n dX11_distance_0 rfl rfl ?_
  refine wp_iconst (v := 0) dX11_distance_1 (by decide) ?_
  refine wp_putI dX11_distance_2 (Or.inl fpX11_96) rfl ⟨rfl, rfl⟩ (sk310 hS) (sn310 hS) ?_
  refine wp_aload_n dX11_distance_5 rfl rfl ?_
  refine wp_iload_n dX11_distance_6 rfl rfl ?_
  obtain ⟨⟨r1, I2⟩, hF3, h⟩ := obi h
  refine wp_callVi (ci := 11) (As := [.int a2]) dX11_distance_7 lbX11_isNode mlX11_377 imX11_isNode seX11_isNode vc11 (ct_X11_isNode 1 (Nat.le_refl _) hS  hF3) rfl rfl (Nat.le_trans (by decide) hd) (sk310 hS) (sn310 hS) (Nat.le_of_ble_eq_true rfl) (fun _ => ?_)
  refine wp_if_eq (tgt := 21) dX11_distance_10 (by decide) (fun hc4 => ?_) (fun hc4 => ?_)
  · have h := ite_t hc4 h
    refine wp_iconst (v := 0) dX11_distance_21 (by decide) ?_
    exact wp_iret dX11_distance_22 rfl (by obtain rfl := sji h; exact ⟨rfl, rfl, rfl, rfl⟩)
  · have h := ite_f hc4 h
    refine wp_aload_n dX11_distance_13 rfl rfl ?_
    refine wp_iload_n dX11_distance_14 rfl rfl ?_
    obtain ⟨⟨r5, I6⟩, hF7, h⟩ := obi h
    refine wp_callVi (ci := 11) (As := [.int a3]) dX11_distance_15 lbX11_isNode mlX11_377 imX11_isNode seX11_isNode vc11 (ct_X11_isNode 1 (Nat.le_refl _) hS  hF7) rfl rfl (Nat.le_trans (by decide) hd) (sk310 hS) (sn310 hS) (Nat.le_of_ble_eq_true rfl) (fun _ => ?_)
    refine wp_if_ne (tgt := 23) dX11_distance_18 (by decide) (fun hc8 => ?_) (fun hc8 => ?_)
    · have h := ite_f hc8 h
      refine wp_iconst (v := 0) dX11_distance_23 (by decide) ?_
      refine wp_istore_n (ls' := [(3, .int 0), (0, .ref 310), (1, .int a2), (2, .int a3)]) dX11_distance_24 rfl (Nat.le_of_ble_eq_true rfl) rfl ?_
      obtain ⟨I13, hL936, h⟩ := obi h
      refine wp_pick (ks := [1, 2, 3, 0]) rfl (wX11_distance_25 d hd hS  a2 a3 N 0 I6 _ hL936 (fun _ e37 => ?_))
      cases e37
      refine wp_iconst (v := 0) dX11_distance_54 (by decide) ?_
      refine wp_istore_n (ls' := [(3, .int 0), (0, .ref 310), (2, .int a3)]) dX11_distance_55 rfl (Nat.le_of_ble_eq_true rfl) rfl ?_
      obtain ⟨I31, hL934, h⟩ := obi h
      refine wp_pick (ks := [1, 2, 0]) rfl (wX11_distance_56 N d hd hS  a3 N 0 I13 _ hL934 (fun _ e35 => ?_))
      cases e35
      refine wp_aload_n dX11_distance_157 rfl rfl ?_
      refine wp_getR dX11_distance_158 flX11_81 rfl (sk310 hS) (sn310 hS) (sr310_44 hS) ?_
      refine wp_iload_n dX11_distance_161 rfl rfl ?_
      obtain ⟨hb32, h⟩ := ck_inv h
      refine wp_iald dX11_distance_162 (sk332 hS) (sn332 hS) hb32 ?_
      refine wp_ldc dX11_distance_163 koX11_236 ?_
      refine wp_icmp_lt (tgt := 172) dX11_distance_165 (by decide) (fun hc33 => ?_) (fun hc33 => ?_)
      · have h := ite_t hc33 h
        refine wp_aload_n dX11_distance_172 rfl rfl ?_
        refine wp_getR dX11_distance_173 flX11_81 rfl (sk310 hS) (sn310 hS) (sr310_44 hS) ?_
        refine wp_iload_n dX11_distance_176 rfl rfl ?_
        refine wp_iald dX11_distance_177 (sk332 hS) (sn332 hS) hb32 ?_
        exact wp_iret dX11_distance_178 rfl (by obtain rfl := sji h; exact ⟨rfl, rfl, rfl, rfl⟩)
      · have h := ite_f hc33 h
        refine wp_iconst (v := (-1)) dX11_distance_168 (by decide) ?_
        refine wp_goto (tgt := 178) dX11_distance_169 (by decide) ?_
        exact wp_iret dX11_distance_178 rfl (by obtain rfl := sji h; exact ⟨rfl, rfl, rfl, rfl⟩)
    · have h := ite_t hc8 h
      refine wp_iconst (v := 0) dX11_distance_21 (by decide) ?_
      exact wp_iret dX11_distance_22 rfl (by obtain rfl := sji h; exact ⟨rfl, rfl, rfl, rfl⟩)
def mX11_room_18 (N : Nat) (k1 : Int32) : Nat → Int32 → gI → Option (Int32 × gI)
  | 0, _, _ => none
  | n + 1, v2, I => if v2 ≤ 0 then (some (v2, I)) else (Option.bind (mX11_hasBest N 0 k1 v2 I) (fun (r6, I7) => if r6 = 0 then (mX11_room_18 N k1 n (v2 + (-1)) I7) else (some (v2, I7))))
def mX11_room (N : Nat) (a2 : Int32) (I : gI) : Option (Int32 × gI) := Option.bind (mX11_isTunnel a2 (upd2 I 310 0 0)) (fun (r1, I2) => if r1 = 0 then (some (0, I2)) else (Option.bind (mX11_room_18 N a2 N 99 I2) (fun (y10, I11) => some (y10, I11))))
set_option maxHeartbeats 4000000 in
set_option maxRecDepth 100000 in
theorem wX11_room_18 (N : Nat) (d : Nat) (hd : 4 ≤ d) {S : gS} {J : gJ} (hS : Sh S)  (k1 : Int32) {Q : gO → gS → gI → gJ → Prop} :
    ∀ (n : Nat) (v2 : Int32) (I : gI) (res : Int32 × gI), mX11_room_18 N k1 n v2 I = some res → (∀ (o2 : Int32) (O : gI), res = (o2, O) → Wp RX11 cX11_room 3 (some .int) [] hF d 0 0 38 [(2, .int o2)] [] S O J Q) → Wp RX11 cX11_room 3 (some .int) [] hF d 0 0 18 [(0, .ref 310), (1, .int k1), (2, .int v2)] [] S I J Q := by
  intro n
  induction n with
  | zero => intro v2 I res h; exact nso h
  | succ n ih =>
    intro v2 I res h kx
    rw [mX11_room_18] at h
    refine wp_iload_n dX11_room_18 rfl rfl ?_
    refine wp_if_le (tgt := 38) dX11_room_19 (by decide) (fun hc5 => ?_) (fun hc5 => ?_)
    · have h := ite_t hc5 h
      exact wp_pick (ks := [2]) rfl (kx _ _ (sji h).symm)
    · have h := ite_f hc5 h
      refine wp_aload_n dX11_room_22 rfl rfl ?_
      refine wp_iconst (v := 0) dX11_room_23 (by decide) ?_
      refine wp_iload_n dX11_room_24 rfl rfl ?_
      refine wp_iload_n dX11_room_25 rfl rfl ?_
      obtain ⟨⟨r6, I7⟩, hF8, h⟩ := obi h
      refine wp_callVi (ci := 11) (As := [.int 0, .int k1, .int v2]) dX11_room_26 lbX11_hasBest mlX11_287 imX11_hasBest seX11_hasBest vc11 (ct_X11_hasBest N 3 (Nat.le_refl _) hS  hF8) rfl rfl (Nat.le_trans (by decide) hd) (sk310 hS) (sn310 hS) (Nat.le_of_ble_eq_true rfl) (fun _ => ?_)
      refine wp_if_ne (tgt := 38) dX11_room_29 (by decide) (fun hc9 => ?_) (fun hc9 => ?_)
      · have h := ite_f hc9 h
        exact wp_pick (ks := [2]) rfl (kx _ _ (sji h).symm)
      · have h := ite_t hc9 h
        refine wp_iinc (v := (-1)) (ls' := [(2, .int (v2 + (-1))), (0, .ref 310), (1, .int k1)]) dX11_room_32 rfl (by decide) (Nat.le_of_ble_eq_true rfl) rfl ?_
        refine wp_goto (tgt := 18) dX11_room_35 (by decide) ?_
        exact wp_pick (ks := [1, 2, 0]) rfl (ih _ _ _ h kx)
set_option maxHeartbeats 4000000 in
set_option maxRecDepth 100000 in
theorem ct_X11_room (N : Nat) (d : Nat) (hd : 4 ≤ d) {S : gS} {J : gJ} (hS : Sh S)  {a2 : Int32} {I : gI} {r : Int32 × gI} (h : mX11_room N a2 I = some r) : Ct yX11_room (wsY yX11_room cX11_room 3 (some .int)) d 0 0 [.ref 310, .int a2] S I J (qE (.inl (some (.int r.1))) S r.2 J) := by
  refine Ct.of hF (fun _ _ _ _ _ => trivial) (by decide +kernel) (Nat.le_of_ble_eq_true rfl) ⟨Or.inl (sn310 hS), trivial, trivial⟩ ?_
  show Wp RX11 cX11_room 3 (some .int) [] hF d 0 0 0 [(0, .ref 310), (1, .int a2)] [] S I J _
  unfold mX11_room at h
  refine wp_aload_n dX11_room_0 rfl rfl ?_
  refine wp_iconst (v := 0) dX11_room_1 (by decide) ?_
  refine wp_putI dX11_room_2 (Or.inl fpX11_96) rfl ⟨rfl, rfl⟩ (sk310 hS) (sn310 hS) ?_
  refine wp_aload_n dX11_room_5 rfl rfl ?_
  refine wp_iload_n dX11_room_6 rfl rfl ?_
  obtain ⟨⟨r1, I2⟩, hF3, h⟩ := obi h
  refine wp_callVi (ci := 11) (As := [.int a2]) dX11_room_7 lbX11_isTunnel mlX11_347 imX11_isTunnel seX11_isTunnel vc11 (ct_X11_isTunnel 1 (Nat.le_refl _) hS  hF3) rfl rfl (Nat.le_trans (by decide) hd) (sk310 hS) (sn310 hS) (Nat.le_of_ble_eq_true rfl) (fun _ => ?_)
  refine wp_if_ne (tgt := 15) dX11_room_10 (by decide) (fun hc4 => ?_) (fun hc4 => ?_)
  · have h := ite_f hc4 h
    refine wp_bipush (v := 99) dX11_room_15 (by decide) ?_
    refine wp_istore_n (ls' := [(2, .int 99), (0, .ref 310), (1, .int a2)]) dX11_room_17 rfl (Nat.le_of_ble_eq_true rfl) rfl ?_
    obtain ⟨⟨y10, I11⟩, hL912, h⟩ := obi h
    refine wp_pick (ks := [1, 2, 0]) rfl (wX11_room_18 N d hd hS  a2 N 99 I2 _ hL912 (fun _ _ e13 => ?_))
    cases e13
    refine wp_iload_n dX11_room_38 rfl rfl ?_
    exact wp_iret dX11_room_39 rfl (by obtain rfl := sji h; exact ⟨rfl, rfl, rfl, rfl⟩)
  · have h := ite_t hc4 h
    refine wp_iconst (v := 0) dX11_room_13 (by decide) ?_
    exact wp_iret dX11_room_14 rfl (by obtain rfl := sji h; exact ⟨rfl, rfl, rfl, rfl⟩)
def mX11_saved_49 (N : Nat) (k1 : Int32) : Nat → Int32 → Int32 → gI → Option (Int32 × gI)
  | 0, _, _, _ => none
  | n + 1, v2, v3, I => if (I 310 15) ≤ v3 then (some (v2, I)) else (Option.bind (mX11_wayBits N 0 v3 I) (fun r13 => if ((r13 >>> (k1 &&& 31)) &&& 1) = 1 then (ck (1 + v3) 164 (Option.bind (mX11_hasBest N 82 v3 (I 317 (1 + v3).toNatClampNeg) I) (fun (r17, I18) => if r17 = 0 then (mX11_saved_49 N k1 n v2 (v3 + 1) I18) else (mX11_saved_49 N k1 n (v2 ||| ((1 : Int32) <<< (v3 &&& 31))) (v3 + 1) I18)))) else (mX11_saved_49 N k1 n v2 (v3 + 1) I)))
def mX11_saved (N : Nat) (a2 : Int32) (I : gI) : Option (Int32 × gI) := Option.bind (mX11_isLink a2 (upd2 I 310 0 0)) (fun (r1, I2) => if r1 = 0 then (some (0, I2)) else (Option.bind (mX11_isUp 0 a2 I2) (fun r5 => if r5 = 0 then (some (0, I2)) else (Option.bind (mX11_tries N I2) (fun I8 => nm ((I8 317 (82 : Int32).toNatClampNeg) &&& (((1 : Int32) <<< (a2 &&& 31)) ^^^ (-1))) (fun x10 => Option.bind (mX11_saved_49 N a2 N 0 0 (upd2 I8 317 (82 : Int32).toNatClampNeg x10)) (fun (y21, I22) => some (y21, I22))))))))
set_option maxHeartbeats 4000000 in
set_option maxRecDepth 100000 in
theorem wX11_saved_49 (N : Nat) (d : Nat) (hd : 4 ≤ d) {S : gS} {J : gJ} (hS : Sh S)  (k1 : Int32) {Q : gO → gS → gI → gJ → Prop} :
    ∀ (n : Nat) (v2 : Int32) (v3 : Int32) (I : gI) (res : Int32 × gI), mX11_saved_49 N k1 n v2 v3 I = some res → (∀ (o2 : Int32) (O : gI), res = (o2, O) → Wp RX11 cX11_saved 4 (some .int) [] hF d 0 0 101 [(2, .int o2)] [] S O J Q) → Wp RX11 cX11_saved 4 (some .int) [] hF d 0 0 49 [(0, .ref 310), (1, .int k1), (2, .int v2), (3, .int v3)] [] S I J Q := by
  intro n
  induction n with
  | zero => intro v2 v3 I res h; exact nso h
  | succ n ih =>
    intro v2 v3 I res h kx
    rw [mX11_saved_49] at h
    refine wp_iload_n dX11_saved_49 rfl rfl ?_
    refine wp_aload_n dX11_saved_50 rfl rfl ?_
    refine wp_getI dX11_saved_51 flX11_202 rfl (sk310 hS) (sn310 hS) ?_
    refine wp_icmp_ge (tgt := 101) dX11_saved_54 (by decide) (fun hc12 => ?_) (fun hc12 => ?_)
    · have h := ite_t hc12 h
      exact wp_pick (ks := [2]) rfl (kx _ _ (sji h).symm)
    · have h := ite_f hc12 h
      refine wp_aload_n dX11_saved_57 rfl rfl ?_
      refine wp_iconst (v := 0) dX11_saved_58 (by decide) ?_
      refine wp_iload_n dX11_saved_59 rfl rfl ?_
      obtain ⟨r13, hF14, h⟩ := obi h
      refine wp_callVi (ci := 11) (As := [.int 0, .int v3]) dX11_saved_60 lbX11_wayBits mlX11_226 imX11_wayBits seX11_wayBits vc11 (ct_X11_wayBits N 0 (Nat.le_refl _) hS  hF14) rfl rfl (Nat.le_trans (by decide) hd) (sk310 hS) (sn310 hS) (Nat.le_of_ble_eq_true rfl) (fun _ => ?_)
      refine wp_iload_n dX11_saved_63 rfl rfl ?_
      refine wp_ishr dX11_saved_64 ?_
      refine wp_iconst (v := 1) dX11_saved_65 (by decide) ?_
      refine wp_iand dX11_saved_66 ?_
      refine wp_iconst (v := 1) dX11_saved_67 (by decide) ?_
      refine wp_icmp_ne (tgt := 95) dX11_saved_68 (by decide) (fun hc15 => ?_) (fun hc15 => ?_)
      · have h := ite_f hc15 h
        refine wp_iinc (v := 1) (ls' := [(3, .int (v3 + 1)), (0, .ref 310), (1, .int k1), (2, .int v2)]) dX11_saved_95 rfl (by decide) (Nat.le_of_ble_eq_true rfl) rfl ?_
        refine wp_goto (tgt := 49) dX11_saved_98 (by decide) ?_
        exact wp_pick (ks := [1, 2, 3, 0]) rfl (ih _ _ _ _ h kx)
      · have h := ite_t hc15 h
        refine wp_aload_n dX11_saved_71 rfl rfl ?_
        refine wp_bipush (v := 82) dX11_saved_72 (by decide) ?_
        refine wp_iload_n dX11_saved_74 rfl rfl ?_
        refine wp_aload_n dX11_saved_75 rfl rfl ?_
        refine wp_getR dX11_saved_76 flX11_35 rfl (sk310 hS) (sn310 hS) (sr310_23 hS) ?_
        refine wp_iconst (v := 1) dX11_saved_79 (by decide) ?_
        refine wp_iload_n dX11_saved_80 rfl rfl ?_
        refine wp_iadd dX11_saved_81 ?_
        obtain ⟨hb16, h⟩ := ck_inv h
        refine wp_iald dX11_saved_82 (sk317 hS) (sn317 hS) hb16 ?_
        obtain ⟨⟨r17, I18⟩, hF19, h⟩ := obi h
        refine wp_callVi (ci := 11) (As := [.int 82, .int v3, .int (I 317 (1 + v3).toNatClampNeg)]) dX11_saved_83 lbX11_hasBest mlX11_287 imX11_hasBest seX11_hasBest vc11 (ct_X11_hasBest N 3 (Nat.le_refl _) hS  hF19) rfl rfl (Nat.le_trans (by decide) hd) (sk310 hS) (sn310 hS) (Nat.le_of_ble_eq_true rfl) (fun _ => ?_)
        refine wp_if_eq (tgt := 95) dX11_saved_86 (by decide) (fun hc20 => ?_) (fun hc20 => ?_)
        · have h := ite_t hc20 h
          refine wp_iinc (v := 1) (ls' := [(3, .int (v3 + 1)), (0, .ref 310), (1, .int k1), (2, .int v2)]) dX11_saved_95 rfl (by decide) (Nat.le_of_ble_eq_true rfl) rfl ?_
          refine wp_goto (tgt := 49) dX11_saved_98 (by decide) ?_
          exact wp_pick (ks := [1, 2, 3, 0]) rfl (ih _ _ _ _ h kx)
        · have h := ite_f hc20 h
          refine wp_iload_n dX11_saved_89 rfl rfl ?_
          refine wp_iconst (v := 1) dX11_saved_90 (by decide) ?_
          refine wp_iload_n dX11_saved_91 rfl rfl ?_
          refine wp_ishl dX11_saved_92 ?_
          refine wp_ior dX11_saved_93 ?_
          refine wp_istore_n (ls' := [(2, .int (v2 ||| ((1 : Int32) <<< (v3 &&& 31)))), (0, .ref 310), (1, .int k1), (3, .int v3)]) dX11_saved_94 rfl (Nat.le_of_ble_eq_true rfl) rfl ?_
          refine wp_iinc (v := 1) (ls' := [(3, .int (v3 + 1)), (2, .int (v2 ||| ((1 : Int32) <<< (v3 &&& 31)))), (0, .ref 310), (1, .int k1)]) dX11_saved_95 rfl (by decide) (Nat.le_of_ble_eq_true rfl) rfl ?_
          refine wp_goto (tgt := 49) dX11_saved_98 (by decide) ?_
          exact wp_pick (ks := [2, 3, 1, 0]) rfl (ih _ _ _ _ h kx)
set_option maxHeartbeats 4000000 in
set_option maxRecDepth 100000 in
theorem ct_X11_saved (N : Nat) (d : Nat) (hd : 4 ≤ d) {S : gS} {J : gJ} (hS : Sh S)  {a2 : Int32} {I : gI} {r : Int32 × gI} (h : mX11_saved N a2 I = some r) : Ct yX11_saved (wsY yX11_saved cX11_saved 4 (some .int)) d 0 0 [.ref 310, .int a2] S I J (qE (.inl (some (.int r.1))) S r.2 J) := by
  refine Ct.of hF (fun _ _ _ _ _ => trivial) (by decide +kernel) (Nat.le_of_ble_eq_true rfl) ⟨Or.inl (sn310 hS), trivial, trivial⟩ ?_
  show Wp RX11 cX11_saved 4 (some .int) [] hF d 0 0 0 [(0, .ref 310), (1, .int a2)] [] S I J _
  unfold mX11_saved at h
  refine wp_aload_n dX11_saved_0 rfl rfl ?_
  refine wp_iconst (v := 0) dX11_saved_1 (by decide) ?_
  refine wp_putI dX11_saved_2 (Or.inl fpX11_96) rfl ⟨rfl, rfl⟩ (sk310 hS) (sn310 hS) ?_
  refine wp_aload_n dX11_saved_5 rfl rfl ?_
  refine wp_iload_n dX11_saved_6 rfl rfl ?_
  obtain ⟨⟨r1, I2⟩, hF3, h⟩ := obi h
  refine wp_callVi (ci := 11) (As := [.int a2]) dX11_saved_7 lbX11_isLink mlX11_335 imX11_isLink seX11_isLink vc11 (ct_X11_isLink 1 (Nat.le_refl _) hS  hF3) rfl rfl (Nat.le_trans (by decide) hd) (sk310 hS) (sn310 hS) (Nat.le_of_ble_eq_true rfl) (fun _ => ?_)
  refine wp_if_ne (tgt := 15) dX11_saved_10 (by decide) (fun hc4 => ?_) (fun hc4 => ?_)
  · have h := ite_f hc4 h
    refine wp_aload_n dX11_saved_15 rfl rfl ?_
    refine wp_iconst (v := 0) dX11_saved_16 (by decide) ?_
    refine wp_iload_n dX11_saved_17 rfl rfl ?_
    obtain ⟨r5, hF6, h⟩ := obi h
    refine wp_callVi (ci := 11) (As := [.int 0, .int a2]) dX11_saved_18 lbX11_isUp mlX11_233 imX11_isUp seX11_isUp vc11 (ct_X11_isUp 0 (Nat.le_refl _) hS  hF6) rfl rfl (Nat.le_trans (by decide) hd) (sk310 hS) (sn310 hS) (Nat.le_of_ble_eq_true rfl) (fun _ => ?_)
    refine wp_if_ne (tgt := 26) dX11_saved_21 (by decide) (fun hc7 => ?_) (fun hc7 => ?_)
    · have h := ite_f hc7 h
      refine wp_iconst (v := 0) dX11_saved_26 (by decide) ?_
      refine wp_istore_n (ls' := [(2, .int 0), (0, .ref 310), (1, .int a2)]) dX11_saved_27 rfl (Nat.le_of_ble_eq_true rfl) rfl ?_
      refine wp_aload_n dX11_saved_28 rfl rfl ?_
      obtain ⟨I8, hF9, h⟩ := obi h
      refine wp_callVv (ci := 11) (As := []) dX11_saved_29 lbX11_tries mlX11_303 imX11_tries seX11_tries vc11 (ct_X11_tries N 0 (Nat.le_refl _) hS  hF9) rfl rfl (Nat.le_trans (by decide) hd) (sk310 hS) (sn310 hS) (Nat.le_of_ble_eq_true rfl) (fun _ => ?_)
      refine wp_aload_n dX11_saved_32 rfl rfl ?_
      refine wp_getR dX11_saved_33 flX11_35 rfl (sk310 hS) (sn310 hS) (sr310_23 hS) ?_
      refine wp_bipush (v := 82) dX11_saved_36 (by decide) ?_
      refine wp_dup2 dX11_saved_38 rfl rfl ?_
      refine wp_iald dX11_saved_39 (sk317 hS) (sn317 hS) (inb_in (by decide)) ?_
      refine wp_iconst (v := 1) dX11_saved_40 (by decide) ?_
      refine wp_iload_n dX11_saved_41 rfl rfl ?_
      refine wp_ishl dX11_saved_42 ?_
      refine wp_iconst (v := (-1)) dX11_saved_43 (by decide) ?_
      refine wp_ixor dX11_saved_44 ?_
      refine wp_iand dX11_saved_45 ?_
      obtain ⟨x10, hx11, h⟩ := nm_inv h
      refine wp_topi hx11 ?_
      refine wp_iast dX11_saved_46 (sk317 hS) (sn317 hS) (inb_in (by decide)) ?_
      refine wp_iconst (v := 0) dX11_saved_47 (by decide) ?_
      refine wp_istore_n (ls' := [(3, .int 0), (2, .int 0), (0, .ref 310), (1, .int a2)]) dX11_saved_48 rfl (Nat.le_of_ble_eq_true rfl) rfl ?_
      obtain ⟨⟨y21, I22⟩, hL923, h⟩ := obi h
      refine wp_pick (ks := [2, 3, 1, 0]) rfl (wX11_saved_49 N d hd hS  a2 N 0 0 (upd2 I8 317 (82 : Int32).toNatClampNeg x10) _ hL923 (fun _ _ e24 => ?_))
      cases e24
      refine wp_iload_n dX11_saved_101 rfl rfl ?_
      exact wp_iret dX11_saved_102 rfl (by obtain rfl := sji h; exact ⟨rfl, rfl, rfl, rfl⟩)
    · have h := ite_t hc7 h
      refine wp_iconst (v := 0) dX11_saved_24 (by decide) ?_
      exact wp_iret dX11_saved_25 rfl (by obtain rfl := sji h; exact ⟨rfl, rfl, rfl, rfl⟩)
  · have h := ite_t hc4 h
    refine wp_iconst (v := 0) dX11_saved_13 (by decide) ?_
    exact wp_iret dX11_saved_14 rfl (by obtain rfl := sji h; exact ⟨rfl, rfl, rfl, rfl⟩)
def mX11_see (a2 : Int32) (a3 : Int32) (a4 : Int32) (a5 : Int32) (a6 : Int32) (I : gI) : Option (Int32 × gI) := Option.bind (mX11_isNode a2 (upd2 I 310 0 0)) (fun (r1, I2) => if r1 = 0 then (some (0, I2)) else (Option.bind (mX11_isNode a3 I2) (fun (r5, I6) => if r5 = 0 then (some (0, I6)) else (if (I6 310 45) = 8 then (Option.bind (mX11_refuses 2 I6) (fun (r10, I11) => some (r10, I11))) else (if a2 = a3 then (Option.bind (mX11_refuses 2 I6) (fun (r14, I15) => some (r14, I15))) else (Option.bind (mX11_within a4 1 99 I6) (fun r17 => if r17 = 0 then (Option.bind (mX11_refuses 2 I6) (fun (r20, I21) => some (r20, I21))) else (Option.bind (mX11_within a5 0 7 I6) (fun r23 => if r23 = 0 then (Option.bind (mX11_refuses 2 I6) (fun (r49, I50) => some (r49, I50))) else (ck (5 * (I6 310 45)) 40 (nm (5 * ((upd2 I6 333 (5 * (I6 310 45)).toNatClampNeg a2) 310 45)) (fun x27 => ck (x27 + 1) 40 (nm (upd2 (upd2 I6 333 (5 * (I6 310 45)).toNatClampNeg a2) 333 (x27 + 1).toNatClampNeg a3) (fun I30 => ck ((5 * (I30 310 45)) + 2) 40 (nm ((upd2 I30 333 ((5 * (I30 310 45)) + 2).toNatClampNeg a4) 310 45) (fun x33 => ck ((5 * x33) + 3) 40 (nm (upd2 (upd2 I30 333 ((5 * (I30 310 45)) + 2).toNatClampNeg a4) 333 ((5 * x33) + 3).toNatClampNeg a5) (fun I36 => if a6 = 0 then (ck ((5 * (I36 310 45)) + 4) 40 (nm ((upd2 I36 333 ((5 * (I36 310 45)) + 4).toNatClampNeg 0) 310 45) (fun x40 => nm (upd2 (upd2 I36 333 ((5 * (I36 310 45)) + 4).toNatClampNeg 0) 310 45 (x40 + 1)) (fun I42 => some (I42 310 45, I42))))) else (ck ((5 * (I36 310 45)) + 4) 40 (nm ((upd2 I36 333 ((5 * (I36 310 45)) + 4).toNatClampNeg 1) 310 45) (fun x45 => nm (upd2 (upd2 I36 333 ((5 * (I36 310 45)) + 4).toNatClampNeg 1) 310 45 (x45 + 1)) (fun I47 => some (I47 310 45, I47)))))))))))))))))))))))
set_option maxHeartbeats 4000000 in
set_option maxRecDepth 100000 in
theorem ct_X11_see (d : Nat) (hd : 2 ≤ d) {S : gS} {J : gJ} (hS : Sh S)  {a2 : Int32} {a3 : Int32} {a4 : Int32} {a5 : Int32} {a6 : Int32} {I : gI} {r : Int32 × gI} (h : mX11_see a2 a3 a4 a5 a6 I = some r) : Ct yX11_see (wsY yX11_see cX11_see 6 (some .int)) d 0 0 [.ref 310, .int a2, .int a3, .int a4, .int a5, .int a6] S I J (qE (.inl (some (.int r.1))) S r.2 J) := by
  refine Ct.of hF (fun _ _ _ _ _ => trivial) (by decide +kernel) (Nat.le_of_ble_eq_true rfl) ⟨Or.inl (sn310 hS), trivial, trivial, trivial, trivial, trivial, trivial⟩ ?_
  show Wp RX11 cX11_see 6 (some .int) [] hF d 0 0 0 [(0, .ref 310), (1, .int a2), (2, .int a3), (3, .int a4), (4, .int a5), (5, .int a6)] [] S I J _
  unfold mX11_see at h
  refine wp_aload_n dX11_see_0 rfl rfl ?_
  refine wp_iconst (v := 0) dX11_see_1 (by decide) ?_
  refine wp_putI dX11_see_2 (Or.inl fpX11_96) rfl ⟨rfl, rfl⟩ (sk310 hS) (sn310 hS) ?_
  refine wp_aload_n dX11_see_5 rfl rfl ?_
  refine wp_iload_n dX11_see_6 rfl rfl ?_
  obtain ⟨⟨r1, I2⟩, hF3, h⟩ := obi h
  refine wp_callVi (ci := 11) (As := [.int a2]) dX11_see_7 lbX11_isNode mlX11_377 imX11_isNode seX11_isNode vc11 (ct_X11_isNode 1 (Nat.le_refl _) hS  hF3) rfl rfl (Nat.le_trans (by decide) hd) (sk310 hS) (sn310 hS) (Nat.le_of_ble_eq_true rfl) (fun _ => ?_)
  refine wp_if_eq (tgt := 21) dX11_see_10 (by decide) (fun hc4 => ?_) (fun hc4 => ?_)
  · have h := ite_t hc4 h
    refine wp_iconst (v := 0) dX11_see_21 (by decide) ?_
    exact wp_iret dX11_see_22 rfl (by obtain rfl := sji h; exact ⟨rfl, rfl, rfl, rfl⟩)
  · have h := ite_f hc4 h
    refine wp_aload_n dX11_see_13 rfl rfl ?_
    refine wp_iload_n dX11_see_14 rfl rfl ?_
    obtain ⟨⟨r5, I6⟩, hF7, h⟩ := obi h
    refine wp_callVi (ci := 11) (As := [.int a3]) dX11_see_15 lbX11_isNode mlX11_377 imX11_isNode seX11_isNode vc11 (ct_X11_isNode 1 (Nat.le_refl _) hS  hF7) rfl rfl (Nat.le_trans (by decide) hd) (sk310 hS) (sn310 hS) (Nat.le_of_ble_eq_true rfl) (fun _ => ?_)
    refine wp_if_ne (tgt := 23) dX11_see_18 (by decide) (fun hc8 => ?_) (fun hc8 => ?_)
    · have h := ite_f hc8 h
      refine wp_aload_n dX11_see_23 rfl rfl ?_
      refine wp_getI dX11_see_24 flX11_212 rfl (sk310 hS) (sn310 hS) ?_
      refine wp_bipush (v := 8) dX11_see_27 (by decide) ?_
      refine wp_icmp_eq (tgt := 58) dX11_see_29 (by decide) (fun hc9 => ?_) (fun hc9 => ?_)
      · have h := ite_t hc9 h
        refine wp_aload_n dX11_see_58 rfl rfl ?_
        refine wp_iconst (v := 2) dX11_see_59 (by decide) ?_
        obtain ⟨⟨r10, I11⟩, hF12, h⟩ := obi h
        refine wp_callVi (ci := 11) (As := [.int 2]) dX11_see_60 lbX11_refuses mlX11_353 imX11_refuses seX11_refuses vc11 (ct_X11_refuses 0 (Nat.le_refl _) hS  hF12) rfl rfl (Nat.le_trans (by decide) hd) (sk310 hS) (sn310 hS) (Nat.le_of_ble_eq_true rfl) (fun _ => ?_)
        exact wp_iret dX11_see_63 rfl (by obtain rfl := sji h; exact ⟨rfl, rfl, rfl, rfl⟩)
      · have h := ite_f hc9 h
        refine wp_iload_n dX11_see_32 rfl rfl ?_
        refine wp_iload_n dX11_see_33 rfl rfl ?_
        refine wp_icmp_eq (tgt := 58) dX11_see_34 (by decide) (fun hc13 => ?_) (fun hc13 => ?_)
        · have h := ite_t hc13 h
          refine wp_aload_n dX11_see_58 rfl rfl ?_
          refine wp_iconst (v := 2) dX11_see_59 (by decide) ?_
          obtain ⟨⟨r14, I15⟩, hF16, h⟩ := obi h
          refine wp_callVi (ci := 11) (As := [.int 2]) dX11_see_60 lbX11_refuses mlX11_353 imX11_refuses seX11_refuses vc11 (ct_X11_refuses 0 (Nat.le_refl _) hS  hF16) rfl rfl (Nat.le_trans (by decide) hd) (sk310 hS) (sn310 hS) (Nat.le_of_ble_eq_true rfl) (fun _ => ?_)
          exact wp_iret dX11_see_63 rfl (by obtain rfl := sji h; exact ⟨rfl, rfl, rfl, rfl⟩)
        · have h := ite_f hc13 h
          refine wp_iload_n dX11_see_37 rfl rfl ?_
          refine wp_iconst (v := 1) dX11_see_38 (by decide) ?_
          refine wp_bipush (v := 99) dX11_see_39 (by decide) ?_
          obtain ⟨r17, hF18, h⟩ := obi h
          refine wp_callSi (As := [.int a4, .int 1, .int 99]) dX11_see_41 lbX11_within mlX11_318 smX11_within (ct_X11_within 0 (Nat.le_refl _) hS  hF18) rfl rfl (Nat.le_trans (by decide) hd) (Nat.le_of_ble_eq_true rfl) (fun _ => ?_)
          refine wp_if_eq (tgt := 58) dX11_see_44 (by decide) (fun hc19 => ?_) (fun hc19 => ?_)
          · have h := ite_t hc19 h
            refine wp_aload_n dX11_see_58 rfl rfl ?_
            refine wp_iconst (v := 2) dX11_see_59 (by decide) ?_
            obtain ⟨⟨r20, I21⟩, hF22, h⟩ := obi h
            refine wp_callVi (ci := 11) (As := [.int 2]) dX11_see_60 lbX11_refuses mlX11_353 imX11_refuses seX11_refuses vc11 (ct_X11_refuses 0 (Nat.le_refl _) hS  hF22) rfl rfl (Nat.le_trans (by decide) hd) (sk310 hS) (sn310 hS) (Nat.le_of_ble_eq_true rfl) (fun _ => ?_)
            exact wp_iret dX11_see_63 rfl (by obtain rfl := sji h; exact ⟨rfl, rfl, rfl, rfl⟩)
          · have h := ite_f hc19 h
            refine wp_iload dX11_see_47 rfl ?_
            refine wp_iconst (v := 0) dX11_see_49 (by decide) ?_
            refine wp_bipush (v := 7) dX11_see_50 (by decide) ?_
            obtain ⟨r23, hF24, h⟩ := obi h
            refine wp_callSi (As := [.int a5, .int 0, .int 7]) dX11_see_52 lbX11_within mlX11_318 smX11_within (ct_X11_within 0 (Nat.le_refl _) hS  hF24) rfl rfl (Nat.le_trans (by decide) hd) (Nat.le_of_ble_eq_true rfl) (fun _ => ?_)
            refine wp_if_ne (tgt := 64) dX11_see_55 (by decide) (fun hc25 => ?_) (fun hc25 => ?_)
            · have h := ite_f hc25 h
              refine wp_aload_n dX11_see_64 rfl rfl ?_
              refine wp_getR dX11_see_65 flX11_84 rfl (sk310 hS) (sn310 hS) (sr310_46 hS) ?_
              refine wp_iconst (v := 5) dX11_see_68 (by decide) ?_
              refine wp_aload_n dX11_see_69 rfl rfl ?_
              refine wp_getI dX11_see_70 flX11_212 rfl (sk310 hS) (sn310 hS) ?_
              refine wp_imul dX11_see_73 ?_
              refine wp_iload_n dX11_see_74 rfl rfl ?_
              obtain ⟨hb26, h⟩ := ck_inv h
              refine wp_iast dX11_see_75 (sk333 hS) (sn333 hS) hb26 ?_
              refine wp_aload_n dX11_see_76 rfl rfl ?_
              refine wp_getR dX11_see_77 flX11_84 rfl (sk310 hS) (sn310 hS) (sr310_46 hS) ?_
              refine wp_iconst (v := 5) dX11_see_80 (by decide) ?_
              refine wp_aload_n dX11_see_81 rfl rfl ?_
              refine wp_getI dX11_see_82 flX11_212 rfl (sk310 hS) (sn310 hS) ?_
              refine wp_imul dX11_see_85 ?_
              obtain ⟨x27, hx28, h⟩ := nm_inv h
              refine wp_topi hx28 ?_
              refine wp_iconst (v := 1) dX11_see_86 (by decide) ?_
              refine wp_iadd dX11_see_87 ?_
              refine wp_iload_n dX11_see_88 rfl rfl ?_
              obtain ⟨hb29, h⟩ := ck_inv h
              refine wp_iast dX11_see_89 (sk333 hS) (sn333 hS) hb29 ?_
              obtain ⟨I30, hx31, h⟩ := nm_inv h
              refine wp_nmI hx31 ?_
              refine wp_aload_n dX11_see_90 rfl rfl ?_
              refine wp_getR dX11_see_91 flX11_84 rfl (sk310 hS) (sn310 hS) (sr310_46 hS) ?_
              refine wp_iconst (v := 5) dX11_see_94 (by decide) ?_
              refine wp_aload_n dX11_see_95 rfl rfl ?_
              refine wp_getI dX11_see_96 flX11_212 rfl (sk310 hS) (sn310 hS) ?_
              refine wp_imul dX11_see_99 ?_
              refine wp_iconst (v := 2) dX11_see_100 (by decide) ?_
              refine wp_iadd dX11_see_101 ?_
              refine wp_iload_n dX11_see_102 rfl rfl ?_
              obtain ⟨hb32, h⟩ := ck_inv h
              refine wp_iast dX11_see_103 (sk333 hS) (sn333 hS) hb32 ?_
              refine wp_aload_n dX11_see_104 rfl rfl ?_
              refine wp_getR dX11_see_105 flX11_84 rfl (sk310 hS) (sn310 hS) (sr310_46 hS) ?_
              refine wp_iconst (v := 5) dX11_see_108 (by decide) ?_
              refine wp_aload_n dX11_see_109 rfl rfl ?_
              refine wp_getI dX11_see_110 flX11_212 rfl (sk310 hS) (sn310 hS) ?_
              obtain ⟨x33, hx34, h⟩ := nm_inv h
              refine wp_topi hx34 ?_
              refine wp_imul dX11_see_113 ?_
              refine wp_iconst (v := 3) dX11_see_114 (by decide) ?_
              refine wp_iadd dX11_see_115 ?_
              refine wp_iload dX11_see_116 rfl ?_
              obtain ⟨hb35, h⟩ := ck_inv h
              refine wp_iast dX11_see_118 (sk333 hS) (sn333 hS) hb35 ?_
              obtain ⟨I36, hx37, h⟩ := nm_inv h
              refine wp_nmI hx37 ?_
              refine wp_aload_n dX11_see_119 rfl rfl ?_
              refine wp_getR dX11_see_120 flX11_84 rfl (sk310 hS) (sn310 hS) (sr310_46 hS) ?_
              refine wp_iconst (v := 5) dX11_see_123 (by decide) ?_
              refine wp_aload_n dX11_see_124 rfl rfl ?_
              refine wp_getI dX11_see_125 flX11_212 rfl (sk310 hS) (sn310 hS) ?_
              refine wp_imul dX11_see_128 ?_
              refine wp_iconst (v := 4) dX11_see_129 (by decide) ?_
              refine wp_iadd dX11_see_130 ?_
              refine wp_iload dX11_see_131 rfl ?_
              refine wp_if_eq (tgt := 140) dX11_see_133 (by decide) (fun hc38 => ?_) (fun hc38 => ?_)
              · have h := ite_t hc38 h
                refine wp_iconst (v := 0) dX11_see_140 (by decide) ?_
                obtain ⟨hb39, h⟩ := ck_inv h
                refine wp_iast dX11_see_141 (sk333 hS) (sn333 hS) hb39 ?_
                refine wp_aload_n dX11_see_142 rfl rfl ?_
                refine wp_dup dX11_see_143 rfl ?_
                refine wp_getI dX11_see_144 flX11_212 rfl (sk310 hS) (sn310 hS) ?_
                obtain ⟨x40, hx41, h⟩ := nm_inv h
                refine wp_topi hx41 ?_
                refine wp_iconst (v := 1) dX11_see_147 (by decide) ?_
                refine wp_iadd dX11_see_148 ?_
                refine wp_putI dX11_see_149 (Or.inl fpX11_212) rfl ⟨rfl, rfl⟩ (sk310 hS) (sn310 hS) ?_
                obtain ⟨I42, hx43, h⟩ := nm_inv h
                refine wp_nmI hx43 ?_
                refine wp_aload_n dX11_see_152 rfl rfl ?_
                refine wp_getI dX11_see_153 flX11_212 rfl (sk310 hS) (sn310 hS) ?_
                exact wp_iret dX11_see_156 rfl (by obtain rfl := sji h; exact ⟨rfl, rfl, rfl, rfl⟩)
              · have h := ite_f hc38 h
                refine wp_iconst (v := 1) dX11_see_136 (by decide) ?_
                refine wp_goto (tgt := 141) dX11_see_137 (by decide) ?_
                obtain ⟨hb44, h⟩ := ck_inv h
                refine wp_iast dX11_see_141 (sk333 hS) (sn333 hS) hb44 ?_
                refine wp_aload_n dX11_see_142 rfl rfl ?_
                refine wp_dup dX11_see_143 rfl ?_
                refine wp_getI dX11_see_144 flX11_212 rfl (sk310 hS) (sn310 hS) ?_
                obtain ⟨x45, hx46, h⟩ := nm_inv h
                refine wp_topi hx46 ?_
                refine wp_iconst (v := 1) dX11_see_147 (by decide) ?_
                refine wp_iadd dX11_see_148 ?_
                refine wp_putI dX11_see_149 (Or.inl fpX11_212) rfl ⟨rfl, rfl⟩ (sk310 hS) (sn310 hS) ?_
                obtain ⟨I47, hx48, h⟩ := nm_inv h
                refine wp_nmI hx48 ?_
                refine wp_aload_n dX11_see_152 rfl rfl ?_
                refine wp_getI dX11_see_153 flX11_212 rfl (sk310 hS) (sn310 hS) ?_
                exact wp_iret dX11_see_156 rfl (by obtain rfl := sji h; exact ⟨rfl, rfl, rfl, rfl⟩)
            · have h := ite_t hc25 h
              refine wp_aload_n dX11_see_58 rfl rfl ?_
              refine wp_iconst (v := 2) dX11_see_59 (by decide) ?_
              obtain ⟨⟨r49, I50⟩, hF51, h⟩ := obi h
              refine wp_callVi (ci := 11) (As := [.int 2]) dX11_see_60 lbX11_refuses mlX11_353 imX11_refuses seX11_refuses vc11 (ct_X11_refuses 0 (Nat.le_refl _) hS  hF51) rfl rfl (Nat.le_trans (by decide) hd) (sk310 hS) (sn310 hS) (Nat.le_of_ble_eq_true rfl) (fun _ => ?_)
              exact wp_iret dX11_see_63 rfl (by obtain rfl := sji h; exact ⟨rfl, rfl, rfl, rfl⟩)
    · have h := ite_t hc8 h
      refine wp_iconst (v := 0) dX11_see_21 (by decide) ?_
      exact wp_iret dX11_see_22 rfl (by obtain rfl := sji h; exact ⟨rfl, rfl, rfl, rfl⟩)
def mX11_forget (I : gI) : Option (gI) := some (upd2 (upd2 I 310 0 0) 310 45 0)
set_option maxHeartbeats 4000000 in
set_option maxRecDepth 100000 in
theorem ct_X11_forget (d : Nat) (hd : 0 ≤ d) {S : gS} {J : gJ} (hS : Sh S)  {I : gI} {r : gI} (h : mX11_forget I = some r) : Ct yX11_forget (wsY yX11_forget cX11_forget 1 none) d 0 0 [.ref 310] S I J (qE (.inl none) S r J) := by
  refine Ct.of hF (fun _ _ _ _ _ => trivial) (by decide +kernel) (Nat.le_of_ble_eq_true rfl) ⟨Or.inl (sn310 hS), trivial⟩ ?_
  show Wp RX11 cX11_forget 1 none [] hF d 0 0 0 [(0, .ref 310)] [] S I J _
  unfold mX11_forget at h
  refine wp_aload_n dX11_forget_0 rfl rfl ?_
  refine wp_iconst (v := 0) dX11_forget_1 (by decide) ?_
  refine wp_putI dX11_forget_2 (Or.inl fpX11_96) rfl ⟨rfl, rfl⟩ (sk310 hS) (sn310 hS) ?_
  refine wp_aload_n dX11_forget_5 rfl rfl ?_
  refine wp_iconst (v := 0) dX11_forget_6 (by decide) ?_
  refine wp_putI dX11_forget_7 (Or.inl fpX11_212) rfl ⟨rfl, rfl⟩ (sk310 hS) (sn310 hS) ?_
  exact wp_vret dX11_forget_10 rfl (by obtain rfl := sji h; exact ⟨rfl, rfl, rfl, rfl⟩)
def mX11_isSeen_2 (N : Nat) : Nat → Int32 → gI → Option ((gI) ⊕ (Int32 × gI))
  | 0, _, _ => none
  | n + 1, v1, I => if (I 310 45) ≤ v1 then (some (.inl I)) else (ck (5 * v1) 40 (ck ((5 * v1) + 1) 40 (ck ((5 * v1) + 2) 40 (ck ((5 * v1) + 3) 40 (Option.bind (mX11_isFoundFor N (I 333 (5 * v1).toNatClampNeg) (I 333 ((5 * v1) + 1).toNatClampNeg) (I 333 ((5 * v1) + 2).toNatClampNeg) (I 333 ((5 * v1) + 3).toNatClampNeg) I) (fun (r6, I7) => ck ((5 * v1) + 4) 40 (Option.bind (if (I7 333 ((5 * v1) + 4).toNatClampNeg) = 1 then (some 1) else (some 0) : Option (Int32)) (fun x10 => if r6 = x10 then (mX11_isSeen_2 N n (v1 + 1) I7) else (some (.inr (0, I7)))))))))))
def mX11_isSeen (N : Nat) (I : gI) : Option (Int32 × gI) := lbind (mX11_isSeen_2 N N 0 I) (fun I14 => some (1, I14)) (fun (r17, I18) => some (r17, I18))
set_option maxHeartbeats 4000000 in
set_option maxRecDepth 100000 in
theorem wX11_isSeen_2 (N : Nat) (d : Nat) (hd : 4 ≤ d) {S : gS} {J : gJ} (hS : Sh S)  {Q : gO → gS → gI → gJ → Prop} :
    ∀ (n : Nat) (v1 : Int32) (I : gI) (res : (gI) ⊕ (Int32 × gI)), mX11_isSeen_2 N n v1 I = some res → (∀ (O : gI), res = Sum.inl O → Wp RX11 cX11_isSeen 2 (some .boolean) [] hF d 0 0 82 [] [] S O J Q) → (∀ (r : Int32) (O : gI), res = Sum.inr (r, O) → Q (.inl (some (.int r))) S O J) → Wp RX11 cX11_isSeen 2 (some .boolean) [] hF d 0 0 2 [(0, .ref 310), (1, .int v1)] [] S I J Q := by
  intro n
  induction n with
  | zero => intro v1 I res h; exact nso h
  | succ n ih =>
    intro v1 I res h kx kr
    rw [mX11_isSeen_2] at h
    refine wp_iload_n dX11_isSeen_2 rfl rfl ?_
    refine wp_aload_n dX11_isSeen_3 rfl rfl ?_
    refine wp_getI dX11_isSeen_4 flX11_212 rfl (sk310 hS) (sn310 hS) ?_
    refine wp_icmp_ge (tgt := 82) dX11_isSeen_7 (by decide) (fun hc1 => ?_) (fun hc1 => ?_)
    · have h := ite_t hc1 h
      exact wp_pick (ks := []) rfl (kx _ (sji h).symm)
    · have h := ite_f hc1 h
      refine wp_aload_n dX11_isSeen_10 rfl rfl ?_
      refine wp_aload_n dX11_isSeen_11 rfl rfl ?_
      refine wp_getR dX11_isSeen_12 flX11_84 rfl (sk310 hS) (sn310 hS) (sr310_46 hS) ?_
      refine wp_iconst (v := 5) dX11_isSeen_15 (by decide) ?_
      refine wp_iload_n dX11_isSeen_16 rfl rfl ?_
      refine wp_imul dX11_isSeen_17 ?_
      obtain ⟨hb2, h⟩ := ck_inv h
      refine wp_iald dX11_isSeen_18 (sk333 hS) (sn333 hS) hb2 ?_
      refine wp_aload_n dX11_isSeen_19 rfl rfl ?_
      refine wp_getR dX11_isSeen_20 flX11_84 rfl (sk310 hS) (sn310 hS) (sr310_46 hS) ?_
      refine wp_iconst (v := 5) dX11_isSeen_23 (by decide) ?_
      refine wp_iload_n dX11_isSeen_24 rfl rfl ?_
      refine wp_imul dX11_isSeen_25 ?_
      refine wp_iconst (v := 1) dX11_isSeen_26 (by decide) ?_
      refine wp_iadd dX11_isSeen_27 ?_
      obtain ⟨hb3, h⟩ := ck_inv h
      refine wp_iald dX11_isSeen_28 (sk333 hS) (sn333 hS) hb3 ?_
      refine wp_aload_n dX11_isSeen_29 rfl rfl ?_
      refine wp_getR dX11_isSeen_30 flX11_84 rfl (sk310 hS) (sn310 hS) (sr310_46 hS) ?_
      refine wp_iconst (v := 5) dX11_isSeen_33 (by decide) ?_
      refine wp_iload_n dX11_isSeen_34 rfl rfl ?_
      refine wp_imul dX11_isSeen_35 ?_
      refine wp_iconst (v := 2) dX11_isSeen_36 (by decide) ?_
      refine wp_iadd dX11_isSeen_37 ?_
      obtain ⟨hb4, h⟩ := ck_inv h
      refine wp_iald dX11_isSeen_38 (sk333 hS) (sn333 hS) hb4 ?_
      refine wp_aload_n dX11_isSeen_39 rfl rfl ?_
      refine wp_getR dX11_isSeen_40 flX11_84 rfl (sk310 hS) (sn310 hS) (sr310_46 hS) ?_
      refine wp_iconst (v := 5) dX11_isSeen_43 (by decide) ?_
      refine wp_iload_n dX11_isSeen_44 rfl rfl ?_
      refine wp_imul dX11_isSeen_45 ?_
      refine wp_iconst (v := 3) dX11_isSeen_46 (by decide) ?_
      refine wp_iadd dX11_isSeen_47 ?_
      obtain ⟨hb5, h⟩ := ck_inv h
      refine wp_iald dX11_isSeen_48 (sk333 hS) (sn333 hS) hb5 ?_
      obtain ⟨⟨r6, I7⟩, hF8, h⟩ := obi h
      refine wp_callVi (ci := 11) (As := [.int (I 333 (5 * v1).toNatClampNeg), .int (I 333 ((5 * v1) + 1).toNatClampNeg), .int (I 333 ((5 * v1) + 2).toNatClampNeg), .int (I 333 ((5 * v1) + 3).toNatClampNeg)]) dX11_isSeen_49 lbX11_isFoundFor mlX11_380 imX11_isFoundFor seX11_isFoundFor vc11 (ct_X11_isFoundFor N 3 (Nat.le_refl _) hS  hF8) rfl rfl (Nat.le_trans (by decide) hd) (sk310 hS) (sn310 hS) (Nat.le_of_ble_eq_true rfl) (fun _ => ?_)
      refine wp_aload_n dX11_isSeen_52 rfl rfl ?_
      refine wp_getR dX11_isSeen_53 flX11_84 rfl (sk310 hS) (sn310 hS) (sr310_46 hS) ?_
      refine wp_iconst (v := 5) dX11_isSeen_56 (by decide) ?_
      refine wp_iload_n dX11_isSeen_57 rfl rfl ?_
      refine wp_imul dX11_isSeen_58 ?_
      refine wp_iconst (v := 4) dX11_isSeen_59 (by decide) ?_
      refine wp_iadd dX11_isSeen_60 ?_
      obtain ⟨hb9, h⟩ := ck_inv h
      refine wp_iald dX11_isSeen_61 (sk333 hS) (sn333 hS) hb9 ?_
      refine wp_iconst (v := 1) dX11_isSeen_62 (by decide) ?_
      obtain ⟨x10, hh13, h⟩ := obi h
      have hJ : Wp RX11 cX11_isSeen 2 (some .boolean) [] hF d 0 0 71 [(0, .ref 310), (1, .int v1)] [.int x10, .int r6] S I7 J Q := by
        refine wp_icmp_eq (tgt := 76) dX11_isSeen_71 (by decide) (fun hc12 => ?_) (fun hc12 => ?_)
        · have h := ite_t hc12 h
          refine wp_iinc (v := 1) (ls' := [(1, .int (v1 + 1)), (0, .ref 310)]) dX11_isSeen_76 rfl (by decide) (Nat.le_of_ble_eq_true rfl) rfl ?_
          refine wp_goto (tgt := 2) dX11_isSeen_79 (by decide) ?_
          exact wp_pick (ks := [1, 0]) rfl (ih _ _ _ h kx kr)
        · have h := ite_f hc12 h
          refine wp_iconst (v := 0) dX11_isSeen_74 (by decide) ?_
          exact wp_zret dX11_isSeen_75 rfl (by decide) (kr _ _ (sji h).symm)
      clear h
      have h := hh13
      clear hh13
      refine wp_icmp_ne (tgt := 70) dX11_isSeen_63 (by decide) (fun hc11 => ?_) (fun hc11 => ?_)
      · have h := ite_f hc11 h
        refine wp_iconst (v := 0) dX11_isSeen_70 (by decide) ?_
        cases h
        exact wp_pick (ks := [0, 1]) rfl hJ
      · have h := ite_t hc11 h
        refine wp_iconst (v := 1) dX11_isSeen_66 (by decide) ?_
        refine wp_goto (tgt := 71) dX11_isSeen_67 (by decide) ?_
        cases h
        exact wp_pick (ks := [0, 1]) rfl hJ
set_option maxHeartbeats 4000000 in
set_option maxRecDepth 100000 in
theorem ct_X11_isSeen (N : Nat) (d : Nat) (hd : 4 ≤ d) {S : gS} {J : gJ} (hS : Sh S)  {I : gI} {r : Int32 × gI} (h : mX11_isSeen N I = some r) : Ct yX11_isSeen (wsY yX11_isSeen cX11_isSeen 2 (some .boolean)) d 0 0 [.ref 310] S I J (qE (.inl (some (.int r.1))) S r.2 J) := by
  refine Ct.of hF (fun _ _ _ _ _ => trivial) (by decide +kernel) (Nat.le_of_ble_eq_true rfl) ⟨Or.inl (sn310 hS), trivial⟩ ?_
  show Wp RX11 cX11_isSeen 2 (some .boolean) [] hF d 0 0 0 [(0, .ref 310)] [] S I J _
  unfold mX11_isSeen at h
  refine wp_iconst (v := 0) dX11_isSeen_0 (by decide) ?_
  refine wp_istore_n (ls' := [(1, .int 0), (0, .ref 310)]) dX11_isSeen_1 rfl (Nat.le_of_ble_eq_true rfl) rfl ?_
  rcases lbi h with ⟨I14, hL915, h⟩ | ⟨⟨r17, I18⟩, hL915, h⟩
  · refine wp_pick (ks := [1, 0]) rfl (wX11_isSeen_2 N d hd hS   N 0 I _ hL915 (fun _ e16 => ?_) (fun _ _ e9 => by cases e9))
    cases e16
    refine wp_iconst (v := 1) dX11_isSeen_82 (by decide) ?_
    exact wp_zret dX11_isSeen_83 rfl (by decide) (by obtain rfl := sji h; exact ⟨rfl, rfl, rfl, rfl⟩)
  · refine wp_pick (ks := [1, 0]) rfl (wX11_isSeen_2 N d hd hS   N 0 I _ hL915 (fun _ e9 => by cases e9) (fun _ _ e16 => ?_))
    cases e16
    exact (by obtain rfl := sji h; exact ⟨rfl, rfl, rfl, rfl⟩)
def mX11_other_75 (N : Nat) (k1 : Int32) (k4 : Int32) (k5 : Int32) (k6 : Int32) : Nat → Int32 → Int32 → Int32 → gI → Option (Int32 × Int32 × gI)
  | 0, _, _, _, _ => none
  | n + 1, v2, v3, v7, I => if 20 < v7 then (some (v2, v3, I)) else (if v7 = k5 then (mX11_other_75 N k1 k4 k5 k6 n v2 v3 (v7 + 1) I) else (if k6 ≤ v7 then (ck ((5 * k4) + 3) 80 (Option.bind (mX11_isSeen N (upd2 I 313 ((5 * k4) + 3).toNatClampNeg v7)) (fun (r14, I15) => if r14 = 0 then (mX11_other_75 N k1 k4 k5 k6 n v2 v3 (v7 + 1) I15) else (if v3 = (-1) then (mX11_other_75 N k1 k4 k5 k6 n (v2 + 1) ((100 * k4) + v7) (v7 + 1) I15) else (mX11_other_75 N k1 k4 k5 k6 n (v2 + 1) v3 (v7 + 1) I15))))) else (mX11_other_75 N k1 k4 k5 k6 n v2 v3 (v7 + 1) I)))
def mX11_other_41 (N : Nat) (k1 : Int32) : Nat → Int32 → Int32 → Int32 → gI → Option (Int32 × Int32 × gI)
  | 0, _, _, _, _ => none
  | n + 1, v2, v3, v4, I => if (I 310 14) ≤ v4 then (some (v2, v3, I)) else (ck ((5 * v4) + 3) 80 (Option.bind (mX11_takenAt N 0 v4 I) (fun r8 => Option.bind (mX11_other_75 N k1 v4 (I 313 ((5 * v4) + 3).toNatClampNeg) r8 N v2 v3 1 I) (fun (y19, y20, I21) => ck ((5 * v4) + 3) 80 (nm (upd2 I21 313 ((5 * v4) + 3).toNatClampNeg (I 313 ((5 * v4) + 3).toNatClampNeg)) (fun I23 => mX11_other_41 N k1 n y19 y20 (v4 + 1) I23))))))
def mX11_other (N : Nat) (a2 : Int32) (I : gI) : Option (Int32 × gI) := Option.bind (mX11_isWhat a2 2 (upd2 I 310 0 0)) (fun (r1, I2) => if r1 = 0 then (some (0, I2)) else (if a2 = 2 then (Option.bind (mX11_isSeen N I2) (fun (r33, I34) => if r33 = 0 then (some (0, I34)) else (some (1, I34)))) else (Option.bind (mX11_other_41 N a2 N 0 (-1) 0 I2) (fun (y27, y28, I29) => if a2 = 0 then (some (y27, I29)) else (some (y28, I29))))))
set_option maxHeartbeats 4000000 in
set_option maxRecDepth 100000 in
theorem wX11_other_75 (N : Nat) (d : Nat) (hd : 5 ≤ d) {S : gS} {J : gJ} (hS : Sh S)  (k1 : Int32) (k4 : Int32) (k5 : Int32) (k6 : Int32) {Q : gO → gS → gI → gJ → Prop} :
    ∀ (n : Nat) (v2 : Int32) (v3 : Int32) (v7 : Int32) (I : gI) (res : Int32 × Int32 × gI), mX11_other_75 N k1 k4 k5 k6 n v2 v3 v7 I = some res → (∀ (o2 : Int32) (o3 : Int32) (O : gI), res = (o2, o3, O) → Wp RX11 cX11_other 8 (some .int) [] hF d 0 0 145 [(0, .ref 310), (1, .int k1), (2, .int o2), (3, .int o3), (4, .int k4), (5, .int k5)] [] S O J Q) → Wp RX11 cX11_other 8 (some .int) [] hF d 0 0 75 [(0, .ref 310), (1, .int k1), (2, .int v2), (3, .int v3), (4, .int k4), (5, .int k5), (6, .int k6), (7, .int v7)] [] S I J Q := by
  intro n
  induction n with
  | zero => intro v2 v3 v7 I res h; exact nso h
  | succ n ih =>
    intro v2 v3 v7 I res h kx
    rw [mX11_other_75] at h
    refine wp_iload dX11_other_75 rfl ?_
    refine wp_bipush (v := 20) dX11_other_77 (by decide) ?_
    refine wp_icmp_gt (tgt := 145) dX11_other_79 (by decide) (fun hc10 => ?_) (fun hc10 => ?_)
    · have h := ite_t hc10 h
      exact wp_pick (ks := [0, 1, 2, 3, 4, 5]) rfl (kx _ _ _ (sji h).symm)
    · have h := ite_f hc10 h
      refine wp_iload dX11_other_82 rfl ?_
      refine wp_iload dX11_other_84 rfl ?_
      refine wp_icmp_eq (tgt := 139) dX11_other_86 (by decide) (fun hc11 => ?_) (fun hc11 => ?_)
      · have h := ite_t hc11 h
        refine wp_iinc (v := 1) (ls' := [(7, .int (v7 + 1)), (0, .ref 310), (1, .int k1), (2, .int v2), (3, .int v3), (4, .int k4), (5, .int k5), (6, .int k6)]) dX11_other_139 rfl (by decide) (Nat.le_of_ble_eq_true rfl) rfl ?_
        refine wp_goto (tgt := 75) dX11_other_142 (by decide) ?_
        exact wp_pick (ks := [1, 2, 3, 4, 5, 6, 7, 0]) rfl (ih _ _ _ _ _ h kx)
      · have h := ite_f hc11 h
        refine wp_iload dX11_other_89 rfl ?_
        refine wp_iload dX11_other_91 rfl ?_
        refine wp_icmp_ge (tgt := 99) dX11_other_93 (by decide) (fun hc12 => ?_) (fun hc12 => ?_)
        · have h := ite_t hc12 h
          refine wp_aload_n dX11_other_99 rfl rfl ?_
          refine wp_getR dX11_other_100 flX11_23 rfl (sk310 hS) (sn310 hS) (sr310_19 hS) ?_
          refine wp_iconst (v := 5) dX11_other_103 (by decide) ?_
          refine wp_iload dX11_other_104 rfl ?_
          refine wp_imul dX11_other_106 ?_
          refine wp_iconst (v := 3) dX11_other_107 (by decide) ?_
          refine wp_iadd dX11_other_108 ?_
          refine wp_iload dX11_other_109 rfl ?_
          obtain ⟨hb13, h⟩ := ck_inv h
          refine wp_iast dX11_other_111 (sk313 hS) (sn313 hS) hb13 ?_
          refine wp_aload_n dX11_other_112 rfl rfl ?_
          obtain ⟨⟨r14, I15⟩, hF16, h⟩ := obi h
          refine wp_callVi (ci := 11) (As := []) dX11_other_113 lbX11_isSeen mlX11_390 imX11_isSeen seX11_isSeen vc11 (ct_X11_isSeen N 4 (Nat.le_refl _) hS  hF16) rfl rfl (Nat.le_trans (by decide) hd) (sk310 hS) (sn310 hS) (Nat.le_of_ble_eq_true rfl) (fun _ => ?_)
          refine wp_if_ne (tgt := 122) dX11_other_116 (by decide) (fun hc17 => ?_) (fun hc17 => ?_)
          · have h := ite_f hc17 h
            refine wp_iinc (v := 1) (ls' := [(2, .int (v2 + 1)), (0, .ref 310), (1, .int k1), (3, .int v3), (4, .int k4), (5, .int k5), (6, .int k6), (7, .int v7)]) dX11_other_122 rfl (by decide) (Nat.le_of_ble_eq_true rfl) rfl ?_
            refine wp_iload_n dX11_other_125 rfl rfl ?_
            refine wp_iconst (v := (-1)) dX11_other_126 (by decide) ?_
            refine wp_icmp_ne (tgt := 139) dX11_other_127 (by decide) (fun hc18 => ?_) (fun hc18 => ?_)
            · have h := ite_f hc18 h
              refine wp_iinc (v := 1) (ls' := [(7, .int (v7 + 1)), (2, .int (v2 + 1)), (0, .ref 310), (1, .int k1), (3, .int v3), (4, .int k4), (5, .int k5), (6, .int k6)]) dX11_other_139 rfl (by decide) (Nat.le_of_ble_eq_true rfl) rfl ?_
              refine wp_goto (tgt := 75) dX11_other_142 (by decide) ?_
              exact wp_pick (ks := [2, 3, 1, 4, 5, 6, 7, 0]) rfl (ih _ _ _ _ _ h kx)
            · have h := ite_t hc18 h
              refine wp_bipush (v := 100) dX11_other_130 (by decide) ?_
              refine wp_iload dX11_other_132 rfl ?_
              refine wp_imul dX11_other_134 ?_
              refine wp_iload dX11_other_135 rfl ?_
              refine wp_iadd dX11_other_137 ?_
              refine wp_istore_n (ls' := [(3, .int ((100 * k4) + v7)), (2, .int (v2 + 1)), (0, .ref 310), (1, .int k1), (4, .int k4), (5, .int k5), (6, .int k6), (7, .int v7)]) dX11_other_138 rfl (Nat.le_of_ble_eq_true rfl) rfl ?_
              refine wp_iinc (v := 1) (ls' := [(7, .int (v7 + 1)), (3, .int ((100 * k4) + v7)), (2, .int (v2 + 1)), (0, .ref 310), (1, .int k1), (4, .int k4), (5, .int k5), (6, .int k6)]) dX11_other_139 rfl (by decide) (Nat.le_of_ble_eq_true rfl) rfl ?_
              refine wp_goto (tgt := 75) dX11_other_142 (by decide) ?_
              exact wp_pick (ks := [3, 4, 2, 1, 5, 6, 7, 0]) rfl (ih _ _ _ _ _ h kx)
          · have h := ite_t hc17 h
            refine wp_goto (tgt := 139) dX11_other_119 (by decide) ?_
            refine wp_iinc (v := 1) (ls' := [(7, .int (v7 + 1)), (0, .ref 310), (1, .int k1), (2, .int v2), (3, .int v3), (4, .int k4), (5, .int k5), (6, .int k6)]) dX11_other_139 rfl (by decide) (Nat.le_of_ble_eq_true rfl) rfl ?_
            refine wp_goto (tgt := 75) dX11_other_142 (by decide) ?_
            exact wp_pick (ks := [1, 2, 3, 4, 5, 6, 7, 0]) rfl (ih _ _ _ _ _ h kx)
        · have h := ite_f hc12 h
          refine wp_goto (tgt := 139) dX11_other_96 (by decide) ?_
          refine wp_iinc (v := 1) (ls' := [(7, .int (v7 + 1)), (0, .ref 310), (1, .int k1), (2, .int v2), (3, .int v3), (4, .int k4), (5, .int k5), (6, .int k6)]) dX11_other_139 rfl (by decide) (Nat.le_of_ble_eq_true rfl) rfl ?_
          refine wp_goto (tgt := 75) dX11_other_142 (by decide) ?_
          exact wp_pick (ks := [1, 2, 3, 4, 5, 6, 7, 0]) rfl (ih _ _ _ _ _ h kx)
set_option maxHeartbeats 4000000 in
set_option maxRecDepth 100000 in
theorem wX11_other_41 (N : Nat) (d : Nat) (hd : 5 ≤ d) {S : gS} {J : gJ} (hS : Sh S)  (k1 : Int32) {Q : gO → gS → gI → gJ → Prop} :
    ∀ (n : Nat) (v2 : Int32) (v3 : Int32) (v4 : Int32) (I : gI) (res : Int32 × Int32 × gI), mX11_other_41 N k1 n v2 v3 v4 I = some res → (∀ (o2 : Int32) (o3 : Int32) (O : gI), res = (o2, o3, O) → Wp RX11 cX11_other 8 (some .int) [] hF d 0 0 164 [(1, .int k1), (2, .int o2), (3, .int o3)] [] S O J Q) → Wp RX11 cX11_other 8 (some .int) [] hF d 0 0 41 [(0, .ref 310), (1, .int k1), (2, .int v2), (3, .int v3), (4, .int v4)] [] S I J Q := by
  intro n
  induction n with
  | zero => intro v2 v3 v4 I res h; exact nso h
  | succ n ih =>
    intro v2 v3 v4 I res h kx
    rw [mX11_other_41] at h
    refine wp_iload dX11_other_41 rfl ?_
    refine wp_aload_n dX11_other_43 rfl rfl ?_
    refine wp_getI dX11_other_44 flX11_199 rfl (sk310 hS) (sn310 hS) ?_
    refine wp_icmp_ge (tgt := 164) dX11_other_47 (by decide) (fun hc6 => ?_) (fun hc6 => ?_)
    · have h := ite_t hc6 h
      exact wp_pick (ks := [1, 2, 3]) rfl (kx _ _ _ (sji h).symm)
    · have h := ite_f hc6 h
      refine wp_aload_n dX11_other_50 rfl rfl ?_
      refine wp_getR dX11_other_51 flX11_23 rfl (sk310 hS) (sn310 hS) (sr310_19 hS) ?_
      refine wp_iconst (v := 5) dX11_other_54 (by decide) ?_
      refine wp_iload dX11_other_55 rfl ?_
      refine wp_imul dX11_other_57 ?_
      refine wp_iconst (v := 3) dX11_other_58 (by decide) ?_
      refine wp_iadd dX11_other_59 ?_
      obtain ⟨hb7, h⟩ := ck_inv h
      refine wp_iald dX11_other_60 (sk313 hS) (sn313 hS) hb7 ?_
      refine wp_istore (ls' := [(5, .int (I 313 ((5 * v4) + 3).toNatClampNeg)), (0, .ref 310), (1, .int k1), (2, .int v2), (3, .int v3), (4, .int v4)]) dX11_other_61 (Nat.le_of_ble_eq_true rfl) rfl ?_
      refine wp_aload_n dX11_other_63 rfl rfl ?_
      refine wp_iconst (v := 0) dX11_other_64 (by decide) ?_
      refine wp_iload dX11_other_65 rfl ?_
      obtain ⟨r8, hF9, h⟩ := obi h
      refine wp_callVi (ci := 11) (As := [.int 0, .int v4]) dX11_other_67 lbX11_takenAt mlX11_269 imX11_takenAt seX11_takenAt vc11 (ct_X11_takenAt N 2 (Nat.le_refl _) hS  hF9) rfl rfl (Nat.le_trans (by decide) hd) (sk310 hS) (sn310 hS) (Nat.le_of_ble_eq_true rfl) (fun _ => ?_)
      refine wp_istore (ls' := [(6, .int r8), (5, .int (I 313 ((5 * v4) + 3).toNatClampNeg)), (0, .ref 310), (1, .int k1), (2, .int v2), (3, .int v3), (4, .int v4)]) dX11_other_70 (Nat.le_of_ble_eq_true rfl) rfl ?_
      refine wp_iconst (v := 1) dX11_other_72 (by decide) ?_
      refine wp_istore (ls' := [(7, .int 1), (6, .int r8), (5, .int (I 313 ((5 * v4) + 3).toNatClampNeg)), (0, .ref 310), (1, .int k1), (2, .int v2), (3, .int v3), (4, .int v4)]) dX11_other_73 (Nat.le_of_ble_eq_true rfl) rfl ?_
      obtain ⟨⟨y19, y20, I21⟩, hL925, h⟩ := obi h
      refine wp_pick (ks := [3, 4, 5, 6, 7, 2, 1, 0]) rfl (wX11_other_75 N d hd hS  k1 v4 (I 313 ((5 * v4) + 3).toNatClampNeg) r8 N v2 v3 1 I _ hL925 (fun _ _ _ e26 => ?_))
      cases e26
      refine wp_aload_n dX11_other_145 rfl rfl ?_
      refine wp_getR dX11_other_146 flX11_23 rfl (sk310 hS) (sn310 hS) (sr310_19 hS) ?_
      refine wp_iconst (v := 5) dX11_other_149 (by decide) ?_
      refine wp_iload dX11_other_150 rfl ?_
      refine wp_imul dX11_other_152 ?_
      refine wp_iconst (v := 3) dX11_other_153 (by decide) ?_
      refine wp_iadd dX11_other_154 ?_
      refine wp_iload dX11_other_155 rfl ?_
      obtain ⟨hb22, h⟩ := ck_inv h
      refine wp_iast dX11_other_157 (sk313 hS) (sn313 hS) hb22 ?_
      obtain ⟨I23, hx24, h⟩ := nm_inv h
      refine wp_nmI hx24 ?_
      refine wp_iinc (v := 1) (ls' := [(4, .int (v4 + 1)), (0, .ref 310), (1, .int k1), (2, .int y19), (3, .int y20), (5, .int (I 313 ((5 * v4) + 3).toNatClampNeg))]) dX11_other_158 rfl (by decide) (Nat.le_of_ble_eq_true rfl) rfl ?_
      refine wp_goto (tgt := 41) dX11_other_161 (by decide) ?_
      exact wp_pick (ks := [1, 2, 3, 4, 0]) rfl (ih _ _ _ _ _ h kx)
set_option maxHeartbeats 4000000 in
set_option maxRecDepth 100000 in
theorem ct_X11_other (N : Nat) (d : Nat) (hd : 5 ≤ d) {S : gS} {J : gJ} (hS : Sh S)  {a2 : Int32} {I : gI} {r : Int32 × gI} (h : mX11_other N a2 I = some r) : Ct yX11_other (wsY yX11_other cX11_other 8 (some .int)) d 0 0 [.ref 310, .int a2] S I J (qE (.inl (some (.int r.1))) S r.2 J) := by
  refine Ct.of hF (fun _ _ _ _ _ => trivial) (by decide +kernel) (Nat.le_of_ble_eq_true rfl) ⟨Or.inl (sn310 hS), trivial, trivial⟩ ?_
  show Wp RX11 cX11_other 8 (some .int) [] hF d 0 0 0 [(0, .ref 310), (1, .int a2)] [] S I J _
  unfold mX11_other at h
  refine wp_aload_n dX11_other_0 rfl rfl ?_
  refine wp_iconst (v := 0) dX11_other_1 (by decide) ?_
  refine wp_putI dX11_other_2 (Or.inl fpX11_96) rfl ⟨rfl, rfl⟩ (sk310 hS) (sn310 hS) ?_
  refine wp_aload_n dX11_other_5 rfl rfl ?_
  refine wp_iload_n dX11_other_6 rfl rfl ?_
  refine wp_iconst (v := 2) dX11_other_7 (by decide) ?_
  obtain ⟨⟨r1, I2⟩, hF3, h⟩ := obi h
  refine wp_callVi (ci := 11) (As := [.int a2, .int 2]) dX11_other_8 lbX11_isWhat mlX11_338 imX11_isWhat seX11_isWhat vc11 (ct_X11_isWhat 1 (Nat.le_refl _) hS  hF3) rfl rfl (Nat.le_trans (by decide) hd) (sk310 hS) (sn310 hS) (Nat.le_of_ble_eq_true rfl) (fun _ => ?_)
  refine wp_if_ne (tgt := 16) dX11_other_11 (by decide) (fun hc4 => ?_) (fun hc4 => ?_)
  · have h := ite_f hc4 h
    refine wp_iload_n dX11_other_16 rfl rfl ?_
    refine wp_iconst (v := 2) dX11_other_17 (by decide) ?_
    refine wp_icmp_ne (tgt := 34) dX11_other_18 (by decide) (fun hc5 => ?_) (fun hc5 => ?_)
    · have h := ite_f hc5 h
      refine wp_iconst (v := 0) dX11_other_34 (by decide) ?_
      refine wp_istore_n (ls' := [(2, .int 0), (0, .ref 310), (1, .int a2)]) dX11_other_35 rfl (Nat.le_of_ble_eq_true rfl) rfl ?_
      refine wp_iconst (v := (-1)) dX11_other_36 (by decide) ?_
      refine wp_istore_n (ls' := [(3, .int (-1)), (2, .int 0), (0, .ref 310), (1, .int a2)]) dX11_other_37 rfl (Nat.le_of_ble_eq_true rfl) rfl ?_
      refine wp_iconst (v := 0) dX11_other_38 (by decide) ?_
      refine wp_istore (ls' := [(4, .int 0), (3, .int (-1)), (2, .int 0), (0, .ref 310), (1, .int a2)]) dX11_other_39 (Nat.le_of_ble_eq_true rfl) rfl ?_
      obtain ⟨⟨y27, y28, I29⟩, hL931, h⟩ := obi h
      refine wp_pick (ks := [3, 4, 2, 1, 0]) rfl (wX11_other_41 N d hd hS  a2 N 0 (-1) 0 I2 _ hL931 (fun _ _ _ e32 => ?_))
      cases e32
      refine wp_iload_n dX11_other_164 rfl rfl ?_
      refine wp_if_ne (tgt := 172) dX11_other_165 (by decide) (fun hc30 => ?_) (fun hc30 => ?_)
      · have h := ite_f hc30 h
        refine wp_iload_n dX11_other_172 rfl rfl ?_
        exact wp_iret dX11_other_173 rfl (by obtain rfl := sji h; exact ⟨rfl, rfl, rfl, rfl⟩)
      · have h := ite_t hc30 h
        refine wp_iload_n dX11_other_168 rfl rfl ?_
        refine wp_goto (tgt := 173) dX11_other_169 (by decide) ?_
        exact wp_iret dX11_other_173 rfl (by obtain rfl := sji h; exact ⟨rfl, rfl, rfl, rfl⟩)
    · have h := ite_t hc5 h
      refine wp_aload_n dX11_other_21 rfl rfl ?_
      obtain ⟨⟨r33, I34⟩, hF35, h⟩ := obi h
      refine wp_callVi (ci := 11) (As := []) dX11_other_22 lbX11_isSeen mlX11_390 imX11_isSeen seX11_isSeen vc11 (ct_X11_isSeen N 4 (Nat.le_refl _) hS  hF35) rfl rfl (Nat.le_trans (by decide) hd) (sk310 hS) (sn310 hS) (Nat.le_of_ble_eq_true rfl) (fun _ => ?_)
      refine wp_if_eq (tgt := 32) dX11_other_25 (by decide) (fun hc36 => ?_) (fun hc36 => ?_)
      · have h := ite_t hc36 h
        refine wp_iconst (v := 0) dX11_other_32 (by decide) ?_
        exact wp_iret dX11_other_33 rfl (by obtain rfl := sji h; exact ⟨rfl, rfl, rfl, rfl⟩)
      · have h := ite_f hc36 h
        refine wp_iconst (v := 1) dX11_other_28 (by decide) ?_
        refine wp_goto (tgt := 33) dX11_other_29 (by decide) ?_
        exact wp_iret dX11_other_33 rfl (by obtain rfl := sji h; exact ⟨rfl, rfl, rfl, rfl⟩)
  · have h := ite_t hc4 h
    refine wp_iconst (v := 0) dX11_other_14 (by decide) ?_
    exact wp_iret dX11_other_15 rfl (by obtain rfl := sji h; exact ⟨rfl, rfl, rfl, rfl⟩)
def mX11_luck_74 (k1 : Int32) (k2 : Int32) (k3 : Int32) (k4 : Int32) (k5 : Int32) (I : gI) : Nat → Int32 → Int32 → Option (Int32)
  | 0, _, _ => none
  | n + 1, v6, v7 => if 8 ≤ v7 then (some v6) else (if ((k4 >>> (v7 &&& 31)) &&& 1) = 1 then (if ((k5 >>> (v7 &&& 31)) &&& 1) = 1 then (mX11_luck_74 k1 k2 k3 k4 k5 I n (v6 * k2) (v7 + 1)) else (mX11_luck_74 k1 k2 k3 k4 k5 I n (v6 * (10 - k2)) (v7 + 1))) else (mX11_luck_74 k1 k2 k3 k4 k5 I n v6 (v7 + 1)))
def mX11_luck_47 (N : Nat) (k1 : Int32) (k2 : Int32) (k4 : Int32) : Nat → Int32 → Int32 → gI → Option (Int32 × gI)
  | 0, _, _, _ => none
  | n + 1, v3, v5, I => if 256 ≤ v5 then (some (v3, I)) else (if (v5 &&& (k4 ^^^ (-1))) = 0 then (Option.bind (mX11_luck_74 k1 k2 v3 k4 v5 I N 1 0) (fun y16 => Option.bind (mX11_tries N I) (fun I17 => nm (upd2 I17 317 (82 : Int32).toNatClampNeg ((I17 317 (0 : Int32).toNatClampNeg) &&& (v5 ^^^ (-1)))) (fun I19 => Option.bind (mX11_hasAny N 82 k1 I19) (fun (r21, I22) => if r21 = 0 then (mX11_luck_47 N k1 k2 k4 n (v3 + 0) (v5 + 1) I22) else (mX11_luck_47 N k1 k2 k4 n (v3 + y16) (v5 + 1) I22)))))) else (mX11_luck_47 N k1 k2 k4 n v3 (v5 + 1) I))
def mX11_luck (N : Nat) (a2 : Int32) (a3 : Int32) (I : gI) : Option (Int32 × gI) := Option.bind (mX11_isTunnel a2 (upd2 I 310 0 0)) (fun (r1, I2) => if r1 = 0 then (some (0, I2)) else (Option.bind (mX11_within a3 0 10 I2) (fun r5 => Option.bind (mX11_right r5 2 I2) (fun (r7, I8) => if r7 = 0 then (some (0, I8)) else (Option.bind (mX11_luck_47 N a2 a3 ((I8 317 (0 : Int32).toNatClampNeg) &&& 255) N 0 0 I8) (fun (y27, I28) => some (y27, I28)))))))
set_option maxHeartbeats 4000000 in
set_option maxRecDepth 100000 in
theorem wX11_luck_74 (d : Nat) (hd : 4 ≤ d) {S : gS} {J : gJ} (hS : Sh S)  (k1 : Int32) (k2 : Int32) (k3 : Int32) (k4 : Int32) (k5 : Int32) (I : gI) {Q : gO → gS → gI → gJ → Prop} :
    ∀ (n : Nat) (v6 : Int32) (v7 : Int32) (res : Int32), mX11_luck_74 k1 k2 k3 k4 k5 I n v6 v7 = some res → (∀ (o6 : Int32), res = o6 → Wp RX11 cX11_luck 8 (some .int) [] hF d 0 0 122 [(0, .ref 310), (1, .int k1), (2, .int k2), (3, .int k3), (4, .int k4), (5, .int k5), (6, .int o6)] [] S I J Q) → Wp RX11 cX11_luck 8 (some .int) [] hF d 0 0 74 [(0, .ref 310), (1, .int k1), (2, .int k2), (3, .int k3), (4, .int k4), (5, .int k5), (6, .int v6), (7, .int v7)] [] S I J Q := by
  intro n
  induction n with
  | zero => intro v6 v7 res h; exact nso h
  | succ n ih =>
    intro v6 v7 res h kx
    rw [mX11_luck_74] at h
    refine wp_iload dX11_luck_74 rfl ?_
    refine wp_bipush (v := 8) dX11_luck_76 (by decide) ?_
    refine wp_icmp_ge (tgt := 122) dX11_luck_78 (by decide) (fun hc13 => ?_) (fun hc13 => ?_)
    · have h := ite_t hc13 h
      exact wp_pick (ks := [0, 1, 2, 3, 4, 5, 6]) rfl (kx _ (sji h).symm)
    · have h := ite_f hc13 h
      refine wp_iload dX11_luck_81 rfl ?_
      refine wp_iload dX11_luck_83 rfl ?_
      refine wp_ishr dX11_luck_85 ?_
      refine wp_iconst (v := 1) dX11_luck_86 (by decide) ?_
      refine wp_iand dX11_luck_87 ?_
      refine wp_iconst (v := 1) dX11_luck_88 (by decide) ?_
      refine wp_icmp_ne (tgt := 116) dX11_luck_89 (by decide) (fun hc14 => ?_) (fun hc14 => ?_)
      · have h := ite_f hc14 h
        refine wp_iinc (v := 1) (ls' := [(7, .int (v7 + 1)), (0, .ref 310), (1, .int k1), (2, .int k2), (3, .int k3), (4, .int k4), (5, .int k5), (6, .int v6)]) dX11_luck_116 rfl (by decide) (Nat.le_of_ble_eq_true rfl) rfl ?_
        refine wp_goto (tgt := 74) dX11_luck_119 (by decide) ?_
        exact wp_pick (ks := [1, 2, 3, 4, 5, 6, 7, 0]) rfl (ih _ _ _ h kx)
      · have h := ite_t hc14 h
        refine wp_iload dX11_luck_92 rfl ?_
        refine wp_iload dX11_luck_94 rfl ?_
        refine wp_iload dX11_luck_96 rfl ?_
        refine wp_ishr dX11_luck_98 ?_
        refine wp_iconst (v := 1) dX11_luck_99 (by decide) ?_
        refine wp_iand dX11_luck_100 ?_
        refine wp_iconst (v := 1) dX11_luck_101 (by decide) ?_
        refine wp_icmp_ne (tgt := 109) dX11_luck_102 (by decide) (fun hc15 => ?_) (fun hc15 => ?_)
        · have h := ite_f hc15 h
          refine wp_bipush (v := 10) dX11_luck_109 (by decide) ?_
          refine wp_iload_n dX11_luck_111 rfl rfl ?_
          refine wp_isub dX11_luck_112 ?_
          refine wp_imul dX11_luck_113 ?_
          refine wp_istore (ls' := [(6, .int (v6 * (10 - k2))), (0, .ref 310), (1, .int k1), (2, .int k2), (3, .int k3), (4, .int k4), (5, .int k5), (7, .int v7)]) dX11_luck_114 (Nat.le_of_ble_eq_true rfl) rfl ?_
          refine wp_iinc (v := 1) (ls' := [(7, .int (v7 + 1)), (6, .int (v6 * (10 - k2))), (0, .ref 310), (1, .int k1), (2, .int k2), (3, .int k3), (4, .int k4), (5, .int k5)]) dX11_luck_116 rfl (by decide) (Nat.le_of_ble_eq_true rfl) rfl ?_
          refine wp_goto (tgt := 74) dX11_luck_119 (by decide) ?_
          exact wp_pick (ks := [2, 3, 4, 5, 6, 7, 1, 0]) rfl (ih _ _ _ h kx)
        · have h := ite_t hc15 h
          refine wp_iload_n dX11_luck_105 rfl rfl ?_
          refine wp_goto (tgt := 113) dX11_luck_106 (by decide) ?_
          refine wp_imul dX11_luck_113 ?_
          refine wp_istore (ls' := [(6, .int (v6 * k2)), (0, .ref 310), (1, .int k1), (2, .int k2), (3, .int k3), (4, .int k4), (5, .int k5), (7, .int v7)]) dX11_luck_114 (Nat.le_of_ble_eq_true rfl) rfl ?_
          refine wp_iinc (v := 1) (ls' := [(7, .int (v7 + 1)), (6, .int (v6 * k2)), (0, .ref 310), (1, .int k1), (2, .int k2), (3, .int k3), (4, .int k4), (5, .int k5)]) dX11_luck_116 rfl (by decide) (Nat.le_of_ble_eq_true rfl) rfl ?_
          refine wp_goto (tgt := 74) dX11_luck_119 (by decide) ?_
          exact wp_pick (ks := [2, 3, 4, 5, 6, 7, 1, 0]) rfl (ih _ _ _ h kx)
set_option maxHeartbeats 4000000 in
set_option maxRecDepth 100000 in
theorem wX11_luck_47 (N : Nat) (d : Nat) (hd : 4 ≤ d) {S : gS} {J : gJ} (hS : Sh S)  (k1 : Int32) (k2 : Int32) (k4 : Int32) {Q : gO → gS → gI → gJ → Prop} :
    ∀ (n : Nat) (v3 : Int32) (v5 : Int32) (I : gI) (res : Int32 × gI), mX11_luck_47 N k1 k2 k4 n v3 v5 I = some res → (∀ (o3 : Int32) (O : gI), res = (o3, O) → Wp RX11 cX11_luck 8 (some .int) [] hF d 0 0 169 [(3, .int o3)] [] S O J Q) → Wp RX11 cX11_luck 8 (some .int) [] hF d 0 0 47 [(0, .ref 310), (1, .int k1), (2, .int k2), (3, .int v3), (4, .int k4), (5, .int v5)] [] S I J Q := by
  intro n
  induction n with
  | zero => intro v3 v5 I res h; exact nso h
  | succ n ih =>
    intro v3 v5 I res h kx
    rw [mX11_luck_47] at h
    refine wp_iload dX11_luck_47 rfl ?_
    refine wp_sipush (v := 256) dX11_luck_49 (by decide) ?_
    refine wp_icmp_ge (tgt := 169) dX11_luck_52 (by decide) (fun hc11 => ?_) (fun hc11 => ?_)
    · have h := ite_t hc11 h
      exact wp_pick (ks := [3]) rfl (kx _ _ (sji h).symm)
    · have h := ite_f hc11 h
      refine wp_iload dX11_luck_55 rfl ?_
      refine wp_iload dX11_luck_57 rfl ?_
      refine wp_iconst (v := (-1)) dX11_luck_59 (by decide) ?_
      refine wp_ixor dX11_luck_60 ?_
      refine wp_iand dX11_luck_61 ?_
      refine wp_if_eq (tgt := 68) dX11_luck_62 (by decide) (fun hc12 => ?_) (fun hc12 => ?_)
      · have h := ite_t hc12 h
        refine wp_iconst (v := 1) dX11_luck_68 (by decide) ?_
        refine wp_istore (ls' := [(6, .int 1), (0, .ref 310), (1, .int k1), (2, .int k2), (3, .int v3), (4, .int k4), (5, .int v5)]) dX11_luck_69 (Nat.le_of_ble_eq_true rfl) rfl ?_
        refine wp_iconst (v := 0) dX11_luck_71 (by decide) ?_
        refine wp_istore (ls' := [(7, .int 0), (6, .int 1), (0, .ref 310), (1, .int k1), (2, .int k2), (3, .int v3), (4, .int k4), (5, .int v5)]) dX11_luck_72 (Nat.le_of_ble_eq_true rfl) rfl ?_
        obtain ⟨y16, hL925, h⟩ := obi h
        refine wp_pick (ks := [2, 3, 4, 5, 6, 7, 1, 0]) rfl (wX11_luck_74 d hd hS  k1 k2 v3 k4 v5 I N 1 0 _ hL925 (fun _ e26 => ?_))
        cases e26
        refine wp_aload_n dX11_luck_122 rfl rfl ?_
        obtain ⟨I17, hF18, h⟩ := obi h
        refine wp_callVv (ci := 11) (As := []) dX11_luck_123 lbX11_tries mlX11_303 imX11_tries seX11_tries vc11 (ct_X11_tries N 0 (Nat.le_refl _) hS  hF18) rfl rfl (Nat.le_trans (by decide) hd) (sk310 hS) (sn310 hS) (Nat.le_of_ble_eq_true rfl) (fun _ => ?_)
        refine wp_aload_n dX11_luck_126 rfl rfl ?_
        refine wp_getR dX11_luck_127 flX11_35 rfl (sk310 hS) (sn310 hS) (sr310_23 hS) ?_
        refine wp_bipush (v := 82) dX11_luck_130 (by decide) ?_
        refine wp_aload_n dX11_luck_132 rfl rfl ?_
        refine wp_getR dX11_luck_133 flX11_35 rfl (sk310 hS) (sn310 hS) (sr310_23 hS) ?_
        refine wp_iconst (v := 0) dX11_luck_136 (by decide) ?_
        refine wp_iald dX11_luck_137 (sk317 hS) (sn317 hS) (inb_in (by decide)) ?_
        refine wp_iload dX11_luck_138 rfl ?_
        refine wp_iconst (v := (-1)) dX11_luck_140 (by decide) ?_
        refine wp_ixor dX11_luck_141 ?_
        refine wp_iand dX11_luck_142 ?_
        refine wp_iast dX11_luck_143 (sk317 hS) (sn317 hS) (inb_in (by decide)) ?_
        obtain ⟨I19, hx20, h⟩ := nm_inv h
        refine wp_nmI hx20 ?_
        refine wp_iload_n dX11_luck_144 rfl rfl ?_
        refine wp_aload_n dX11_luck_145 rfl rfl ?_
        refine wp_bipush (v := 82) dX11_luck_146 (by decide) ?_
        refine wp_iload_n dX11_luck_148 rfl rfl ?_
        obtain ⟨⟨r21, I22⟩, hF23, h⟩ := obi h
        refine wp_callVi (ci := 11) (As := [.int 82, .int k1]) dX11_luck_149 lbX11_hasAny mlX11_344 imX11_hasAny seX11_hasAny vc11 (ct_X11_hasAny N 3 (Nat.le_refl _) hS  hF23) rfl rfl (Nat.le_trans (by decide) hd) (sk310 hS) (sn310 hS) (Nat.le_of_ble_eq_true rfl) (fun _ => ?_)
        refine wp_if_eq (tgt := 160) dX11_luck_152 (by decide) (fun hc24 => ?_) (fun hc24 => ?_)
        · have h := ite_t hc24 h
          refine wp_iconst (v := 0) dX11_luck_160 (by decide) ?_
          refine wp_iadd dX11_luck_161 ?_
          refine wp_istore_n (ls' := [(3, .int (v3 + 0)), (0, .ref 310), (1, .int k1), (2, .int k2), (4, .int k4), (5, .int v5), (6, .int y16)]) dX11_luck_162 rfl (Nat.le_of_ble_eq_true rfl) rfl ?_
          refine wp_iinc (v := 1) (ls' := [(5, .int (v5 + 1)), (3, .int (v3 + 0)), (0, .ref 310), (1, .int k1), (2, .int k2), (4, .int k4), (6, .int y16)]) dX11_luck_163 rfl (by decide) (Nat.le_of_ble_eq_true rfl) rfl ?_
          refine wp_goto (tgt := 47) dX11_luck_166 (by decide) ?_
          exact wp_pick (ks := [2, 3, 4, 1, 5, 0]) rfl (ih _ _ _ _ h kx)
        · have h := ite_f hc24 h
          refine wp_iload dX11_luck_155 rfl ?_
          refine wp_goto (tgt := 161) dX11_luck_157 (by decide) ?_
          refine wp_iadd dX11_luck_161 ?_
          refine wp_istore_n (ls' := [(3, .int (v3 + y16)), (0, .ref 310), (1, .int k1), (2, .int k2), (4, .int k4), (5, .int v5), (6, .int y16)]) dX11_luck_162 rfl (Nat.le_of_ble_eq_true rfl) rfl ?_
          refine wp_iinc (v := 1) (ls' := [(5, .int (v5 + 1)), (3, .int (v3 + y16)), (0, .ref 310), (1, .int k1), (2, .int k2), (4, .int k4), (6, .int y16)]) dX11_luck_163 rfl (by decide) (Nat.le_of_ble_eq_true rfl) rfl ?_
          refine wp_goto (tgt := 47) dX11_luck_166 (by decide) ?_
          exact wp_pick (ks := [2, 3, 4, 1, 5, 0]) rfl (ih _ _ _ _ h kx)
      · have h := ite_f hc12 h
        refine wp_goto (tgt := 163) dX11_luck_65 (by decide) ?_
        refine wp_iinc (v := 1) (ls' := [(5, .int (v5 + 1)), (0, .ref 310), (1, .int k1), (2, .int k2), (3, .int v3), (4, .int k4)]) dX11_luck_163 rfl (by decide) (Nat.le_of_ble_eq_true rfl) rfl ?_
        refine wp_goto (tgt := 47) dX11_luck_166 (by decide) ?_
        exact wp_pick (ks := [1, 2, 3, 4, 5, 0]) rfl (ih _ _ _ _ h kx)
set_option maxHeartbeats 4000000 in
set_option maxRecDepth 100000 in
theorem ct_X11_luck (N : Nat) (d : Nat) (hd : 4 ≤ d) {S : gS} {J : gJ} (hS : Sh S)  {a2 : Int32} {a3 : Int32} {I : gI} {r : Int32 × gI} (h : mX11_luck N a2 a3 I = some r) : Ct yX11_luck (wsY yX11_luck cX11_luck 8 (some .int)) d 0 0 [.ref 310, .int a2, .int a3] S I J (qE (.inl (some (.int r.1))) S r.2 J) := by
  refine Ct.of hF (fun _ _ _ _ _ => trivial) (by decide +kernel) (Nat.le_of_ble_eq_true rfl) ⟨Or.inl (sn310 hS), trivial, trivial, trivial⟩ ?_
  show Wp RX11 cX11_luck 8 (some .int) [] hF d 0 0 0 [(0, .ref 310), (1, .int a2), (2, .int a3)] [] S I J _
  unfold mX11_luck at h
  refine wp_aload_n dX11_luck_0 rfl rfl ?_
  refine wp_iconst (v := 0) dX11_luck_1 (by decide) ?_
  refine wp_putI dX11_luck_2 (Or.inl fpX11_96) rfl ⟨rfl, rfl⟩ (sk310 hS) (sn310 hS) ?_
  refine wp_aload_n dX11_luck_5 rfl rfl ?_
  refine wp_iload_n dX11_luck_6 rfl rfl ?_
  obtain ⟨⟨r1, I2⟩, hF3, h⟩ := obi h
  refine wp_callVi (ci := 11) (As := [.int a2]) dX11_luck_7 lbX11_isTunnel mlX11_347 imX11_isTunnel seX11_isTunnel vc11 (ct_X11_isTunnel 1 (Nat.le_refl _) hS  hF3) rfl rfl (Nat.le_trans (by decide) hd) (sk310 hS) (sn310 hS) (Nat.le_of_ble_eq_true rfl) (fun _ => ?_)
  refine wp_if_eq (tgt := 28) dX11_luck_10 (by decide) (fun hc4 => ?_) (fun hc4 => ?_)
  · have h := ite_t hc4 h
    refine wp_iconst (v := 0) dX11_luck_28 (by decide) ?_
    exact wp_iret dX11_luck_29 rfl (by obtain rfl := sji h; exact ⟨rfl, rfl, rfl, rfl⟩)
  · have h := ite_f hc4 h
    refine wp_aload_n dX11_luck_13 rfl rfl ?_
    refine wp_iload_n dX11_luck_14 rfl rfl ?_
    refine wp_iconst (v := 0) dX11_luck_15 (by decide) ?_
    refine wp_bipush (v := 10) dX11_luck_16 (by decide) ?_
    obtain ⟨r5, hF6, h⟩ := obi h
    refine wp_callSi (As := [.int a3, .int 0, .int 10]) dX11_luck_18 lbX11_within mlX11_318 smX11_within (ct_X11_within 0 (Nat.le_refl _) hS  hF6) rfl rfl (Nat.le_trans (by decide) hd) (Nat.le_of_ble_eq_true rfl) (fun _ => ?_)
    refine wp_iconst (v := 2) dX11_luck_21 (by decide) ?_
    obtain ⟨⟨r7, I8⟩, hF9, h⟩ := obi h
    refine wp_callVi (ci := 11) (As := [.int r5, .int 2]) dX11_luck_22 lbX11_right mlX11_192 imX11_right seX11_right vc11 (ct_X11_right 0 (Nat.le_refl _) hS  hF9) rfl rfl (Nat.le_trans (by decide) hd) (sk310 hS) (sn310 hS) (Nat.le_of_ble_eq_true rfl) (fun _ => ?_)
    refine wp_if_ne (tgt := 30) dX11_luck_25 (by decide) (fun hc10 => ?_) (fun hc10 => ?_)
    · have h := ite_f hc10 h
      refine wp_iconst (v := 0) dX11_luck_30 (by decide) ?_
      refine wp_istore_n (ls' := [(3, .int 0), (0, .ref 310), (1, .int a2), (2, .int a3)]) dX11_luck_31 rfl (Nat.le_of_ble_eq_true rfl) rfl ?_
      refine wp_aload_n dX11_luck_32 rfl rfl ?_
      refine wp_getR dX11_luck_33 flX11_35 rfl (sk310 hS) (sn310 hS) (sr310_23 hS) ?_
      refine wp_iconst (v := 0) dX11_luck_36 (by decide) ?_
      refine wp_iald dX11_luck_37 (sk317 hS) (sn317 hS) (inb_in (by decide)) ?_
      refine wp_sipush (v := 255) dX11_luck_38 (by decide) ?_
      refine wp_iand dX11_luck_41 ?_
      refine wp_istore (ls' := [(4, .int ((I8 317 (0 : Int32).toNatClampNeg) &&& 255)), (3, .int 0), (0, .ref 310), (1, .int a2), (2, .int a3)]) dX11_luck_42 (Nat.le_of_ble_eq_true rfl) rfl ?_
      refine wp_iconst (v := 0) dX11_luck_44 (by decide) ?_
      refine wp_istore (ls' := [(5, .int 0), (4, .int ((I8 317 (0 : Int32).toNatClampNeg) &&& 255)), (3, .int 0), (0, .ref 310), (1, .int a2), (2, .int a3)]) dX11_luck_45 (Nat.le_of_ble_eq_true rfl) rfl ?_
      obtain ⟨⟨y27, I28⟩, hL929, h⟩ := obi h
      refine wp_pick (ks := [3, 4, 5, 2, 1, 0]) rfl (wX11_luck_47 N d hd hS  a2 a3 ((I8 317 (0 : Int32).toNatClampNeg) &&& 255) N 0 0 I8 _ hL929 (fun _ _ e30 => ?_))
      cases e30
      refine wp_iload_n dX11_luck_169 rfl rfl ?_
      exact wp_iret dX11_luck_170 rfl (by obtain rfl := sji h; exact ⟨rfl, rfl, rfl, rfl⟩)
    · have h := ite_t hc10 h
      refine wp_iconst (v := 0) dX11_luck_28 (by decide) ?_
      exact wp_iret dX11_luck_29 rfl (by obtain rfl := sji h; exact ⟨rfl, rfl, rfl, rfl⟩)
def mX11_draw (a2 : Int32) (I : gI) : Option (Int32 × gI) := nm ((upd2 I 310 47 (((I 310 47) * 1103515245) + 12345)) 310 47) (fun x1 => nz a2 (nm (((x1 >>> ((16 : Int32) &&& 31)) &&& 32767) - ((x1 >>> ((16 : Int32) &&& 31)) &&& 32767) / a2 * a2) (fun x4 => some (x4, upd2 I 310 47 (((I 310 47) * 1103515245) + 12345)))))
set_option maxHeartbeats 4000000 in
set_option maxRecDepth 100000 in
theorem ct_X11_draw (d : Nat) (hd : 0 ≤ d) {S : gS} {J : gJ} (hS : Sh S)  {a2 : Int32} {I : gI} {r : Int32 × gI} (h : mX11_draw a2 I = some r) : Ct yX11_draw (wsY yX11_draw cX11_draw 2 (some .int)) d 0 0 [.ref 310, .int a2] S I J (qE (.inl (some (.int r.1))) S r.2 J) := by
  refine Ct.of hF (fun _ _ _ _ _ => trivial) (by decide +kernel) (Nat.le_of_ble_eq_true rfl) ⟨Or.inl (sn310 hS), trivial, trivial⟩ ?_
  show Wp RX11 cX11_draw 2 (some .int) [] hF d 0 0 0 [(0, .ref 310), (1, .int a2)] [] S I J _
  unfold mX11_draw at h
  refine wp_aload_n dX11_draw_0 rfl rfl ?_
  refine wp_aload_n dX11_draw_1 rfl rfl ?_
  refine wp_getI dX11_draw_2 flX11_393 rfl (sk310 hS) (sn310 hS) ?_
  refine wp_ldc_w dX11_draw_5 koX11_396 ?_
  refine wp_imul dX11_draw_8 ?_
  refine wp_sipush (v := 12345) dX11_draw_9 (by decide) ?_
  refine wp_iadd dX11_draw_12 ?_
  refine wp_putI dX11_draw_13 (Or.inl fpX11_393) rfl ⟨rfl, rfl⟩ (sk310 hS) (sn310 hS) ?_
  refine wp_aload_n dX11_draw_16 rfl rfl ?_
  refine wp_getI dX11_draw_17 flX11_393 rfl (sk310 hS) (sn310 hS) ?_
  obtain ⟨x1, hx2, h⟩ := nm_inv h
  refine wp_topi hx2 ?_
  refine wp_bipush (v := 16) dX11_draw_20 (by decide) ?_
  refine wp_ishr dX11_draw_22 ?_
  refine wp_sipush (v := 32767) dX11_draw_23 (by decide) ?_
  refine wp_iand dX11_draw_26 ?_
  refine wp_iload_n dX11_draw_27 rfl rfl ?_
  obtain ⟨hz3, h⟩ := nz_inv h
  refine wp_irem dX11_draw_28 hz3 ?_
  obtain ⟨x4, hx5, h⟩ := nm_inv h
  refine wp_topi hx5 ?_
  exact wp_iret dX11_draw_29 rfl (by obtain rfl := sji h; exact ⟨rfl, rfl, rfl, rfl⟩)
def mX11_happens (N : Nat) (I : gI) : Option (gI) := Option.bind (mX11_draw 4 I) (fun (r1, I2) => if 3 ≤ r1 then (if (I2 310 14) = 0 then (some I2) else (Option.bind (if 3 ≤ r1 then (some (I2 310 14)) else (some (I2 310 15)) : Option (Int32)) (fun x6 => Option.bind (mX11_draw x6 I2) (fun (r8, I9) => if 2 ≤ r1 then (if r1 = 2 then (ck (92 + r8) 164 (some (upd2 I9 317 (92 + r8).toNatClampNeg (-1)))) else (Option.bind (mX11_isUp 82 r8 I9) (fun r13 => if r13 = 0 then (nm ((I9 317 (82 : Int32).toNatClampNeg) ||| ((1 : Int32) <<< (r8 &&& 31))) (fun x16 => some (upd2 I9 317 (82 : Int32).toNatClampNeg x16))) else (Option.bind (mX11_fails N 82 r8 I9) (fun I18 => some I18))))) else (Option.bind (mX11_doesStand 82 r8 I9) (fun r21 => if r21 = 0 then (ck (83 + r8) 164 (Option.bind (mX11_hasBest N 82 r8 (I9 317 (83 + r8).toNatClampNeg) I9) (fun (r25, I26) => if r25 = 0 then (some I26) else (Option.bind (mX11_settles N 82 ((1 : Int32) <<< (r8 &&& 31)) I26) (fun I29 => some I29))))) else (some I9))))))) else (if (I2 310 15) = 0 then (some I2) else (Option.bind (if 3 ≤ r1 then (some (I2 310 14)) else (some (I2 310 15)) : Option (Int32)) (fun x33 => Option.bind (mX11_draw x33 I2) (fun (r35, I36) => if 2 ≤ r1 then (if r1 = 2 then (ck (92 + r35) 164 (some (upd2 I36 317 (92 + r35).toNatClampNeg (-1)))) else (Option.bind (mX11_isUp 82 r35 I36) (fun r40 => if r40 = 0 then (nm ((I36 317 (82 : Int32).toNatClampNeg) ||| ((1 : Int32) <<< (r35 &&& 31))) (fun x43 => some (upd2 I36 317 (82 : Int32).toNatClampNeg x43))) else (Option.bind (mX11_fails N 82 r35 I36) (fun I45 => some I45))))) else (Option.bind (mX11_doesStand 82 r35 I36) (fun r48 => if r48 = 0 then (ck (83 + r35) 164 (Option.bind (mX11_hasBest N 82 r35 (I36 317 (83 + r35).toNatClampNeg) I36) (fun (r52, I53) => if r52 = 0 then (some I53) else (Option.bind (mX11_settles N 82 ((1 : Int32) <<< (r35 &&& 31)) I53) (fun I56 => some I56))))) else (some I36))))))))
set_option maxHeartbeats 4000000 in
set_option maxRecDepth 100000 in
theorem ct_X11_happens (N : Nat) (d : Nat) (hd : 7 ≤ d) {S : gS} {J : gJ} (hS : Sh S)  {I : gI} {r : gI} (h : mX11_happens N I = some r) : Ct yX11_happens (wsY yX11_happens cX11_happens 3 none) d 0 0 [.ref 310] S I J (qE (.inl none) S r J) := by
  refine Ct.of hF (fun _ _ _ _ _ => trivial) (by decide +kernel) (Nat.le_of_ble_eq_true rfl) ⟨Or.inl (sn310 hS), trivial⟩ ?_
  show Wp RX11 cX11_happens 3 none [] hF d 0 0 0 [(0, .ref 310)] [] S I J _
  unfold mX11_happens at h
  refine wp_aload_n dX11_happens_0 rfl rfl ?_
  refine wp_iconst (v := 4) dX11_happens_1 (by decide) ?_
  obtain ⟨⟨r1, I2⟩, hF3, h⟩ := obi h
  refine wp_callVi (ci := 11) (As := [.int 4]) dX11_happens_2 lbX11_draw mlX11_397 imX11_draw seX11_draw vc11 (ct_X11_draw 0 (Nat.le_refl _) hS  hF3) rfl rfl (Nat.le_trans (by decide) hd) (sk310 hS) (sn310 hS) (Nat.le_of_ble_eq_true rfl) (fun _ => ?_)
  refine wp_istore_n (ls' := [(1, .int r1), (0, .ref 310)]) dX11_happens_5 rfl (Nat.le_of_ble_eq_true rfl) rfl ?_
  refine wp_iload_n dX11_happens_6 rfl rfl ?_
  refine wp_iconst (v := 3) dX11_happens_7 (by decide) ?_
  refine wp_icmp_ge (tgt := 21) dX11_happens_8 (by decide) (fun hc4 => ?_) (fun hc4 => ?_)
  · have h := ite_t hc4 h
    refine wp_aload_n dX11_happens_21 rfl rfl ?_
    refine wp_getI dX11_happens_22 flX11_199 rfl (sk310 hS) (sn310 hS) ?_
    refine wp_if_ne (tgt := 29) dX11_happens_25 (by decide) (fun hc5 => ?_) (fun hc5 => ?_)
    · have h := ite_f hc5 h
      refine wp_aload_n dX11_happens_29 rfl rfl ?_
      refine wp_iload_n dX11_happens_30 rfl rfl ?_
      refine wp_iconst (v := 3) dX11_happens_31 (by decide) ?_
      obtain ⟨x6, hh31, h⟩ := obi h
      have hJ : Wp RX11 cX11_happens 3 none [] hF d 0 0 46 [(0, .ref 310), (1, .int r1)] [.int x6, .ref 310] S I2 J (qE (.inl none) S r J) := by
        obtain ⟨⟨r8, I9⟩, hF10, h⟩ := obi h
        refine wp_callVi (ci := 11) (As := [.int x6]) dX11_happens_46 lbX11_draw mlX11_397 imX11_draw seX11_draw vc11 (ct_X11_draw 0 (Nat.le_refl _) hS  hF10) rfl rfl (Nat.le_trans (by decide) hd) (sk310 hS) (sn310 hS) (Nat.le_of_ble_eq_true rfl) (fun _ => ?_)
        refine wp_istore_n (ls' := [(2, .int r8), (0, .ref 310), (1, .int r1)]) dX11_happens_49 rfl (Nat.le_of_ble_eq_true rfl) rfl ?_
        refine wp_iload_n dX11_happens_50 rfl rfl ?_
        refine wp_iconst (v := 2) dX11_happens_51 (by decide) ?_
        refine wp_icmp_ge (tgt := 96) dX11_happens_52 (by decide) (fun hc11 => ?_) (fun hc11 => ?_)
        · have h := ite_t hc11 h
          refine wp_iload_n dX11_happens_96 rfl rfl ?_
          refine wp_iconst (v := 2) dX11_happens_97 (by decide) ?_
          refine wp_icmp_ne (tgt := 114) dX11_happens_98 (by decide) (fun hc12 => ?_) (fun hc12 => ?_)
          · have h := ite_f hc12 h
            refine wp_aload_n dX11_happens_114 rfl rfl ?_
            refine wp_bipush (v := 82) dX11_happens_115 (by decide) ?_
            refine wp_iload_n dX11_happens_117 rfl rfl ?_
            obtain ⟨r13, hF14, h⟩ := obi h
            refine wp_callVi (ci := 11) (As := [.int 82, .int r8]) dX11_happens_118 lbX11_isUp mlX11_233 imX11_isUp seX11_isUp vc11 (ct_X11_isUp 0 (Nat.le_refl _) hS  hF14) rfl rfl (Nat.le_trans (by decide) hd) (sk310 hS) (sn310 hS) (Nat.le_of_ble_eq_true rfl) (fun _ => ?_)
            refine wp_if_eq (tgt := 134) dX11_happens_121 (by decide) (fun hc15 => ?_) (fun hc15 => ?_)
            · have h := ite_t hc15 h
              refine wp_aload_n dX11_happens_134 rfl rfl ?_
              refine wp_getR dX11_happens_135 flX11_35 rfl (sk310 hS) (sn310 hS) (sr310_23 hS) ?_
              refine wp_bipush (v := 82) dX11_happens_138 (by decide) ?_
              refine wp_dup2 dX11_happens_140 rfl rfl ?_
              refine wp_iald dX11_happens_141 (sk317 hS) (sn317 hS) (inb_in (by decide)) ?_
              refine wp_iconst (v := 1) dX11_happens_142 (by decide) ?_
              refine wp_iload_n dX11_happens_143 rfl rfl ?_
              refine wp_ishl dX11_happens_144 ?_
              refine wp_ior dX11_happens_145 ?_
              obtain ⟨x16, hx17, h⟩ := nm_inv h
              refine wp_topi hx17 ?_
              refine wp_iast dX11_happens_146 (sk317 hS) (sn317 hS) (inb_in (by decide)) ?_
              exact wp_vret dX11_happens_147 rfl (by obtain rfl := sji h; exact ⟨rfl, rfl, rfl, rfl⟩)
            · have h := ite_f hc15 h
              refine wp_aload_n dX11_happens_124 rfl rfl ?_
              refine wp_bipush (v := 82) dX11_happens_125 (by decide) ?_
              refine wp_iload_n dX11_happens_127 rfl rfl ?_
              obtain ⟨I18, hF19, h⟩ := obi h
              refine wp_callVv (ci := 11) (As := [.int 82, .int r8]) dX11_happens_128 lbX11_fails mlX11_306 imX11_fails seX11_fails vc11 (ct_X11_fails N 6 (Nat.le_refl _) hS  hF19) rfl rfl (Nat.le_trans (by decide) hd) (sk310 hS) (sn310 hS) (Nat.le_of_ble_eq_true rfl) (fun _ => ?_)
              refine wp_goto (tgt := 147) dX11_happens_131 (by decide) ?_
              exact wp_vret dX11_happens_147 rfl (by obtain rfl := sji h; exact ⟨rfl, rfl, rfl, rfl⟩)
          · have h := ite_t hc12 h
            refine wp_aload_n dX11_happens_101 rfl rfl ?_
            refine wp_getR dX11_happens_102 flX11_35 rfl (sk310 hS) (sn310 hS) (sr310_23 hS) ?_
            refine wp_bipush (v := 92) dX11_happens_105 (by decide) ?_
            refine wp_iload_n dX11_happens_107 rfl rfl ?_
            refine wp_iadd dX11_happens_108 ?_
            refine wp_iconst (v := (-1)) dX11_happens_109 (by decide) ?_
            obtain ⟨hb20, h⟩ := ck_inv h
            refine wp_iast dX11_happens_110 (sk317 hS) (sn317 hS) hb20 ?_
            refine wp_goto (tgt := 147) dX11_happens_111 (by decide) ?_
            exact wp_vret dX11_happens_147 rfl (by obtain rfl := sji h; exact ⟨rfl, rfl, rfl, rfl⟩)
        · have h := ite_f hc11 h
          refine wp_aload_n dX11_happens_55 rfl rfl ?_
          refine wp_bipush (v := 82) dX11_happens_56 (by decide) ?_
          refine wp_iload_n dX11_happens_58 rfl rfl ?_
          obtain ⟨r21, hF22, h⟩ := obi h
          refine wp_callVi (ci := 11) (As := [.int 82, .int r8]) dX11_happens_59 lbX11_doesStand mlX11_219 imX11_doesStand seX11_doesStand vc11 (ct_X11_doesStand 0 (Nat.le_refl _) hS  hF22) rfl rfl (Nat.le_trans (by decide) hd) (sk310 hS) (sn310 hS) (Nat.le_of_ble_eq_true rfl) (fun _ => ?_)
          refine wp_if_ne (tgt := 147) dX11_happens_62 (by decide) (fun hc23 => ?_) (fun hc23 => ?_)
          · have h := ite_f hc23 h
            exact wp_vret dX11_happens_147 rfl (by obtain rfl := sji h; exact ⟨rfl, rfl, rfl, rfl⟩)
          · have h := ite_t hc23 h
            refine wp_aload_n dX11_happens_65 rfl rfl ?_
            refine wp_bipush (v := 82) dX11_happens_66 (by decide) ?_
            refine wp_iload_n dX11_happens_68 rfl rfl ?_
            refine wp_aload_n dX11_happens_69 rfl rfl ?_
            refine wp_getR dX11_happens_70 flX11_35 rfl (sk310 hS) (sn310 hS) (sr310_23 hS) ?_
            refine wp_bipush (v := 83) dX11_happens_73 (by decide) ?_
            refine wp_iload_n dX11_happens_75 rfl rfl ?_
            refine wp_iadd dX11_happens_76 ?_
            obtain ⟨hb24, h⟩ := ck_inv h
            refine wp_iald dX11_happens_77 (sk317 hS) (sn317 hS) hb24 ?_
            obtain ⟨⟨r25, I26⟩, hF27, h⟩ := obi h
            refine wp_callVi (ci := 11) (As := [.int 82, .int r8, .int (I9 317 (83 + r8).toNatClampNeg)]) dX11_happens_78 lbX11_hasBest mlX11_287 imX11_hasBest seX11_hasBest vc11 (ct_X11_hasBest N 3 (Nat.le_refl _) hS  hF27) rfl rfl (Nat.le_trans (by decide) hd) (sk310 hS) (sn310 hS) (Nat.le_of_ble_eq_true rfl) (fun _ => ?_)
            refine wp_if_eq (tgt := 147) dX11_happens_81 (by decide) (fun hc28 => ?_) (fun hc28 => ?_)
            · have h := ite_t hc28 h
              exact wp_vret dX11_happens_147 rfl (by obtain rfl := sji h; exact ⟨rfl, rfl, rfl, rfl⟩)
            · have h := ite_f hc28 h
              refine wp_aload_n dX11_happens_84 rfl rfl ?_
              refine wp_bipush (v := 82) dX11_happens_85 (by decide) ?_
              refine wp_iconst (v := 1) dX11_happens_87 (by decide) ?_
              refine wp_iload_n dX11_happens_88 rfl rfl ?_
              refine wp_ishl dX11_happens_89 ?_
              obtain ⟨I29, hF30, h⟩ := obi h
              refine wp_callVv (ci := 11) (As := [.int 82, .int ((1 : Int32) <<< (r8 &&& 31))]) dX11_happens_90 lbX11_settles mlX11_300 imX11_settles seX11_settles vc11 (ct_X11_settles N 5 (Nat.le_refl _) hS  hF30) rfl rfl (Nat.le_trans (by decide) hd) (sk310 hS) (sn310 hS) (Nat.le_of_ble_eq_true rfl) (fun _ => ?_)
              refine wp_goto (tgt := 147) dX11_happens_93 (by decide) ?_
              exact wp_vret dX11_happens_147 rfl (by obtain rfl := sji h; exact ⟨rfl, rfl, rfl, rfl⟩)
      clear h
      have h := hh31
      clear hh31
      refine wp_icmp_ge (tgt := 42) dX11_happens_32 (by decide) (fun hc7 => ?_) (fun hc7 => ?_)
      · have h := ite_t hc7 h
        refine wp_aload_n dX11_happens_42 rfl rfl ?_
        refine wp_getI dX11_happens_43 flX11_199 rfl (sk310 hS) (sn310 hS) ?_
        cases h
        exact wp_pick (ks := [1, 0]) rfl hJ
      · have h := ite_f hc7 h
        refine wp_aload_n dX11_happens_35 rfl rfl ?_
        refine wp_getI dX11_happens_36 flX11_202 rfl (sk310 hS) (sn310 hS) ?_
        refine wp_goto (tgt := 46) dX11_happens_39 (by decide) ?_
        cases h
        exact wp_pick (ks := [1, 0]) rfl hJ
    · have h := ite_t hc5 h
      exact wp_vret dX11_happens_28 rfl (by obtain rfl := sji h; exact ⟨rfl, rfl, rfl, rfl⟩)
  · have h := ite_f hc4 h
    refine wp_aload_n dX11_happens_11 rfl rfl ?_
    refine wp_getI dX11_happens_12 flX11_202 rfl (sk310 hS) (sn310 hS) ?_
    refine wp_if_ne (tgt := 29) dX11_happens_15 (by decide) (fun hc32 => ?_) (fun hc32 => ?_)
    · have h := ite_f hc32 h
      refine wp_aload_n dX11_happens_29 rfl rfl ?_
      refine wp_iload_n dX11_happens_30 rfl rfl ?_
      refine wp_iconst (v := 3) dX11_happens_31 (by decide) ?_
      obtain ⟨x33, hh58, h⟩ := obi h
      have hJ : Wp RX11 cX11_happens 3 none [] hF d 0 0 46 [(0, .ref 310), (1, .int r1)] [.int x33, .ref 310] S I2 J (qE (.inl none) S r J) := by
        obtain ⟨⟨r35, I36⟩, hF37, h⟩ := obi h
        refine wp_callVi (ci := 11) (As := [.int x33]) dX11_happens_46 lbX11_draw mlX11_397 imX11_draw seX11_draw vc11 (ct_X11_draw 0 (Nat.le_refl _) hS  hF37) rfl rfl (Nat.le_trans (by decide) hd) (sk310 hS) (sn310 hS) (Nat.le_of_ble_eq_true rfl) (fun _ => ?_)
        refine wp_istore_n (ls' := [(2, .int r35), (0, .ref 310), (1, .int r1)]) dX11_happens_49 rfl (Nat.le_of_ble_eq_true rfl) rfl ?_
        refine wp_iload_n dX11_happens_50 rfl rfl ?_
        refine wp_iconst (v := 2) dX11_happens_51 (by decide) ?_
        refine wp_icmp_ge (tgt := 96) dX11_happens_52 (by decide) (fun hc38 => ?_) (fun hc38 => ?_)
        · have h := ite_t hc38 h
          refine wp_iload_n dX11_happens_96 rfl rfl ?_
          refine wp_iconst (v := 2) dX11_happens_97 (by decide) ?_
          refine wp_icmp_ne (tgt := 114) dX11_happens_98 (by decide) (fun hc39 => ?_) (fun hc39 => ?_)
          · have h := ite_f hc39 h
            refine wp_aload_n dX11_happens_114 rfl rfl ?_
            refine wp_bipush (v := 82) dX11_happens_115 (by decide) ?_
            refine wp_iload_n dX11_happens_117 rfl rfl ?_
            obtain ⟨r40, hF41, h⟩ := obi h
            refine wp_callVi (ci := 11) (As := [.int 82, .int r35]) dX11_happens_118 lbX11_isUp mlX11_233 imX11_isUp seX11_isUp vc11 (ct_X11_isUp 0 (Nat.le_refl _) hS  hF41) rfl rfl (Nat.le_trans (by decide) hd) (sk310 hS) (sn310 hS) (Nat.le_of_ble_eq_true rfl) (fun _ => ?_)
            refine wp_if_eq (tgt := 134) dX11_happens_121 (by decide) (fun hc42 => ?_) (fun hc42 => ?_)
            · have h := ite_t hc42 h
              refine wp_aload_n dX11_happens_134 rfl rfl ?_
              refine wp_getR dX11_happens_135 flX11_35 rfl (sk310 hS) (sn310 hS) (sr310_23 hS) ?_
              refine wp_bipush (v := 82) dX11_happens_138 (by decide) ?_
              refine wp_dup2 dX11_happens_140 rfl rfl ?_
              refine wp_iald dX11_happens_141 (sk317 hS) (sn317 hS) (inb_in (by decide)) ?_
              refine wp_iconst (v := 1) dX11_happens_142 (by decide) ?_
              refine wp_iload_n dX11_happens_143 rfl rfl ?_
              refine wp_ishl dX11_happens_144 ?_
              refine wp_ior dX11_happens_145 ?_
              obtain ⟨x43, hx44, h⟩ := nm_inv h
              refine wp_topi hx44 ?_
              refine wp_iast dX11_happens_146 (sk317 hS) (sn317 hS) (inb_in (by decide)) ?_
              exact wp_vret dX11_happens_147 rfl (by obtain rfl := sji h; exact ⟨rfl, rfl, rfl, rfl⟩)
            · have h := ite_f hc42 h
              refine wp_aload_n dX11_happens_124 rfl rfl ?_
              refine wp_bipush (v := 82) dX11_happens_125 (by decide) ?_
              refine wp_iload_n dX11_happens_127 rfl rfl ?_
              obtain ⟨I45, hF46, h⟩ := obi h
              refine wp_callVv (ci := 11) (As := [.int 82, .int r35]) dX11_happens_128 lbX11_fails mlX11_306 imX11_fails seX11_fails vc11 (ct_X11_fails N 6 (Nat.le_refl _) hS  hF46) rfl rfl (Nat.le_trans (by decide) hd) (sk310 hS) (sn310 hS) (Nat.le_of_ble_eq_true rfl) (fun _ => ?_)
              refine wp_goto (tgt := 147) dX11_happens_131 (by decide) ?_
              exact wp_vret dX11_happens_147 rfl (by obtain rfl := sji h; exact ⟨rfl, rfl, rfl, rfl⟩)
          · have h := ite_t hc39 h
            refine wp_aload_n dX11_happens_101 rfl rfl ?_
            refine wp_getR dX11_happens_102 flX11_35 rfl (sk310 hS) (sn310 hS) (sr310_23 hS) ?_
            refine wp_bipush (v := 92) dX11_happens_105 (by decide) ?_
            refine wp_iload_n dX11_happens_107 rfl rfl ?_
            refine wp_iadd dX11_happens_108 ?_
            refine wp_iconst (v := (-1)) dX11_happens_109 (by decide) ?_
            obtain ⟨hb47, h⟩ := ck_inv h
            refine wp_iast dX11_happens_110 (sk317 hS) (sn317 hS) hb47 ?_
            refine wp_goto (tgt := 147) dX11_happens_111 (by decide) ?_
            exact wp_vret dX11_happens_147 rfl (by obtain rfl := sji h; exact ⟨rfl, rfl, rfl, rfl⟩)
        · have h := ite_f hc38 h
          refine wp_aload_n dX11_happens_55 rfl rfl ?_
          refine wp_bipush (v := 82) dX11_happens_56 (by decide) ?_
          refine wp_iload_n dX11_happens_58 rfl rfl ?_
          obtain ⟨r48, hF49, h⟩ := obi h
          refine wp_callVi (ci := 11) (As := [.int 82, .int r35]) dX11_happens_59 lbX11_doesStand mlX11_219 imX11_doesStand seX11_doesStand vc11 (ct_X11_doesStand 0 (Nat.le_refl _) hS  hF49) rfl rfl (Nat.le_trans (by decide) hd) (sk310 hS) (sn310 hS) (Nat.le_of_ble_eq_true rfl) (fun _ => ?_)
          refine wp_if_ne (tgt := 147) dX11_happens_62 (by decide) (fun hc50 => ?_) (fun hc50 => ?_)
          · have h := ite_f hc50 h
            exact wp_vret dX11_happens_147 rfl (by obtain rfl := sji h; exact ⟨rfl, rfl, rfl, rfl⟩)
          · have h := ite_t hc50 h
            refine wp_aload_n dX11_happens_65 rfl rfl ?_
            refine wp_bipush (v := 82) dX11_happens_66 (by decide) ?_
            refine wp_iload_n dX11_happens_68 rfl rfl ?_
            refine wp_aload_n dX11_happens_69 rfl rfl ?_
            refine wp_getR dX11_happens_70 flX11_35 rfl (sk310 hS) (sn310 hS) (sr310_23 hS) ?_
            refine wp_bipush (v := 83) dX11_happens_73 (by decide) ?_
            refine wp_iload_n dX11_happens_75 rfl rfl ?_
            refine wp_iadd dX11_happens_76 ?_
            obtain ⟨hb51, h⟩ := ck_inv h
            refine wp_iald dX11_happens_77 (sk317 hS) (sn317 hS) hb51 ?_
            obtain ⟨⟨r52, I53⟩, hF54, h⟩ := obi h
            refine wp_callVi (ci := 11) (As := [.int 82, .int r35, .int (I36 317 (83 + r35).toNatClampNeg)]) dX11_happens_78 lbX11_hasBest mlX11_287 imX11_hasBest seX11_hasBest vc11 (ct_X11_hasBest N 3 (Nat.le_refl _) hS  hF54) rfl rfl (Nat.le_trans (by decide) hd) (sk310 hS) (sn310 hS) (Nat.le_of_ble_eq_true rfl) (fun _ => ?_)
            refine wp_if_eq (tgt := 147) dX11_happens_81 (by decide) (fun hc55 => ?_) (fun hc55 => ?_)
            · have h := ite_t hc55 h
              exact wp_vret dX11_happens_147 rfl (by obtain rfl := sji h; exact ⟨rfl, rfl, rfl, rfl⟩)
            · have h := ite_f hc55 h
              refine wp_aload_n dX11_happens_84 rfl rfl ?_
              refine wp_bipush (v := 82) dX11_happens_85 (by decide) ?_
              refine wp_iconst (v := 1) dX11_happens_87 (by decide) ?_
              refine wp_iload_n dX11_happens_88 rfl rfl ?_
              refine wp_ishl dX11_happens_89 ?_
              obtain ⟨I56, hF57, h⟩ := obi h
              refine wp_callVv (ci := 11) (As := [.int 82, .int ((1 : Int32) <<< (r35 &&& 31))]) dX11_happens_90 lbX11_settles mlX11_300 imX11_settles seX11_settles vc11 (ct_X11_settles N 5 (Nat.le_refl _) hS  hF57) rfl rfl (Nat.le_trans (by decide) hd) (sk310 hS) (sn310 hS) (Nat.le_of_ble_eq_true rfl) (fun _ => ?_)
              refine wp_goto (tgt := 147) dX11_happens_93 (by decide) ?_
              exact wp_vret dX11_happens_147 rfl (by obtain rfl := sji h; exact ⟨rfl, rfl, rfl, rfl⟩)
      clear h
      have h := hh58
      clear hh58
      refine wp_icmp_ge (tgt := 42) dX11_happens_32 (by decide) (fun hc34 => ?_) (fun hc34 => ?_)
      · have h := ite_t hc34 h
        refine wp_aload_n dX11_happens_42 rfl rfl ?_
        refine wp_getI dX11_happens_43 flX11_199 rfl (sk310 hS) (sn310 hS) ?_
        cases h
        exact wp_pick (ks := [1, 0]) rfl hJ
      · have h := ite_f hc34 h
        refine wp_aload_n dX11_happens_35 rfl rfl ?_
        refine wp_getI dX11_happens_36 flX11_202 rfl (sk310 hS) (sn310 hS) ?_
        refine wp_goto (tgt := 46) dX11_happens_39 (by decide) ?_
        cases h
        exact wp_pick (ks := [1, 0]) rfl hJ
    · have h := ite_t hc32 h
      refine wp_goto (tgt := 28) dX11_happens_18 (by decide) ?_
      exact wp_vret dX11_happens_28 rfl (by obtain rfl := sji h; exact ⟨rfl, rfl, rfl, rfl⟩)
def mX11_years_48 (N : Nat) (k2 : Int32) (k3 : Int32) : Nat → Int32 → gI → Option (gI)
  | 0, _, _ => none
  | n + 1, v4, I => if k2 ≤ v4 then (some I) else (Option.bind (mX11_happens N I) (fun I14 => mX11_years_48 N k2 k3 n (v4 + 1) I14))
def mX11_years (N : Nat) (a2 : Int32) (a3 : Int32) (a4 : Int32) (I : gI) : Option (Int32 × gI) := Option.bind (mX11_isWhat a4 2 (upd2 I 310 0 0)) (fun (r1, I2) => if r1 = 0 then (some (0, I2)) else (Option.bind (mX11_within a3 0 60 I2) (fun r5 => Option.bind (mX11_right r5 2 I2) (fun (r7, I8) => if r7 = 0 then (some (0, I8)) else (Option.bind (mX11_tries N I8) (fun I11 => Option.bind (mX11_years_48 N a3 a4 N 0 (upd2 (upd2 I11 310 47 a2) 310 36 0)) (fun I16 => if a4 = 0 then (Option.bind (mX11_standing N 82 I16) (fun r21 => Option.bind (mX11_bits N r21 I16) (fun r23 => some (r23, I16)))) else (if a4 = 1 then (some (I16 310 36, I16)) else (Option.bind (mX11_takenAll N 82 I16) (fun r19 => some (r19, I16)))))))))))
set_option maxHeartbeats 4000000 in
set_option maxRecDepth 100000 in
theorem wX11_years_48 (N : Nat) (d : Nat) (hd : 8 ≤ d) {S : gS} {J : gJ} (hS : Sh S)  (k2 : Int32) (k3 : Int32) {Q : gO → gS → gI → gJ → Prop} :
    ∀ (n : Nat) (v4 : Int32) (I : gI) (res : gI), mX11_years_48 N k2 k3 n v4 I = some res → (∀ (O : gI), res = O → Wp RX11 cX11_years 5 (some .int) [] hF d 0 0 64 [(0, .ref 310), (3, .int k3)] [] S O J Q) → Wp RX11 cX11_years 5 (some .int) [] hF d 0 0 48 [(0, .ref 310), (2, .int k2), (3, .int k3), (4, .int v4)] [] S I J Q := by
  intro n
  induction n with
  | zero => intro v4 I res h; exact nso h
  | succ n ih =>
    intro v4 I res h kx
    rw [mX11_years_48] at h
    refine wp_iload dX11_years_48 rfl ?_
    refine wp_iload_n dX11_years_50 rfl rfl ?_
    refine wp_icmp_ge (tgt := 64) dX11_years_51 (by decide) (fun hc13 => ?_) (fun hc13 => ?_)
    · have h := ite_t hc13 h
      exact wp_pick (ks := [0, 2]) rfl (kx _ (sji h).symm)
    · have h := ite_f hc13 h
      refine wp_aload_n dX11_years_54 rfl rfl ?_
      obtain ⟨I14, hF15, h⟩ := obi h
      refine wp_callVv (ci := 11) (As := []) dX11_years_55 lbX11_happens mlX11_400 imX11_happens seX11_happens vc11 (ct_X11_happens N 7 (Nat.le_refl _) hS  hF15) rfl rfl (Nat.le_trans (by decide) hd) (sk310 hS) (sn310 hS) (Nat.le_of_ble_eq_true rfl) (fun _ => ?_)
      refine wp_iinc (v := 1) (ls' := [(4, .int (v4 + 1)), (0, .ref 310), (2, .int k2), (3, .int k3)]) dX11_years_58 rfl (by decide) (Nat.le_of_ble_eq_true rfl) rfl ?_
      refine wp_goto (tgt := 48) dX11_years_61 (by decide) ?_
      exact wp_pick (ks := [1, 2, 3, 0]) rfl (ih _ _ _ h kx)
set_option maxHeartbeats 4000000 in
set_option maxRecDepth 100000 in
theorem ct_X11_years (N : Nat) (d : Nat) (hd : 8 ≤ d) {S : gS} {J : gJ} (hS : Sh S)  {a2 : Int32} {a3 : Int32} {a4 : Int32} {I : gI} {r : Int32 × gI} (h : mX11_years N a2 a3 a4 I = some r) : Ct yX11_years (wsY yX11_years cX11_years 5 (some .int)) d 0 0 [.ref 310, .int a2, .int a3, .int a4] S I J (qE (.inl (some (.int r.1))) S r.2 J) := by
  refine Ct.of hF (fun _ _ _ _ _ => trivial) (by decide +kernel) (Nat.le_of_ble_eq_true rfl) ⟨Or.inl (sn310 hS), trivial, trivial, trivial, trivial⟩ ?_
  show Wp RX11 cX11_years 5 (some .int) [] hF d 0 0 0 [(0, .ref 310), (1, .int a2), (2, .int a3), (3, .int a4)] [] S I J _
  unfold mX11_years at h
  refine wp_aload_n dX11_years_0 rfl rfl ?_
  refine wp_iconst (v := 0) dX11_years_1 (by decide) ?_
  refine wp_putI dX11_years_2 (Or.inl fpX11_96) rfl ⟨rfl, rfl⟩ (sk310 hS) (sn310 hS) ?_
  refine wp_aload_n dX11_years_5 rfl rfl ?_
  refine wp_iload_n dX11_years_6 rfl rfl ?_
  refine wp_iconst (v := 2) dX11_years_7 (by decide) ?_
  obtain ⟨⟨r1, I2⟩, hF3, h⟩ := obi h
  refine wp_callVi (ci := 11) (As := [.int a4, .int 2]) dX11_years_8 lbX11_isWhat mlX11_338 imX11_isWhat seX11_isWhat vc11 (ct_X11_isWhat 1 (Nat.le_refl _) hS  hF3) rfl rfl (Nat.le_trans (by decide) hd) (sk310 hS) (sn310 hS) (Nat.le_of_ble_eq_true rfl) (fun _ => ?_)
  refine wp_if_eq (tgt := 29) dX11_years_11 (by decide) (fun hc4 => ?_) (fun hc4 => ?_)
  · have h := ite_t hc4 h
    refine wp_iconst (v := 0) dX11_years_29 (by decide) ?_
    exact wp_iret dX11_years_30 rfl (by obtain rfl := sji h; exact ⟨rfl, rfl, rfl, rfl⟩)
  · have h := ite_f hc4 h
    refine wp_aload_n dX11_years_14 rfl rfl ?_
    refine wp_iload_n dX11_years_15 rfl rfl ?_
    refine wp_iconst (v := 0) dX11_years_16 (by decide) ?_
    refine wp_bipush (v := 60) dX11_years_17 (by decide) ?_
    obtain ⟨r5, hF6, h⟩ := obi h
    refine wp_callSi (As := [.int a3, .int 0, .int 60]) dX11_years_19 lbX11_within mlX11_318 smX11_within (ct_X11_within 0 (Nat.le_refl _) hS  hF6) rfl rfl (Nat.le_trans (by decide) hd) (Nat.le_of_ble_eq_true rfl) (fun _ => ?_)
    refine wp_iconst (v := 2) dX11_years_22 (by decide) ?_
    obtain ⟨⟨r7, I8⟩, hF9, h⟩ := obi h
    refine wp_callVi (ci := 11) (As := [.int r5, .int 2]) dX11_years_23 lbX11_right mlX11_192 imX11_right seX11_right vc11 (ct_X11_right 0 (Nat.le_refl _) hS  hF9) rfl rfl (Nat.le_trans (by decide) hd) (sk310 hS) (sn310 hS) (Nat.le_of_ble_eq_true rfl) (fun _ => ?_)
    refine wp_if_ne (tgt := 31) dX11_years_26 (by decide) (fun hc10 => ?_) (fun hc10 => ?_)
    · have h := ite_f hc10 h
      refine wp_aload_n dX11_years_31 rfl rfl ?_
      obtain ⟨I11, hF12, h⟩ := obi h
      refine wp_callVv (ci := 11) (As := []) dX11_years_32 lbX11_tries mlX11_303 imX11_tries seX11_tries vc11 (ct_X11_tries N 0 (Nat.le_refl _) hS  hF12) rfl rfl (Nat.le_trans (by decide) hd) (sk310 hS) (sn310 hS) (Nat.le_of_ble_eq_true rfl) (fun _ => ?_)
      refine wp_aload_n dX11_years_35 rfl rfl ?_
      refine wp_iload_n dX11_years_36 rfl rfl ?_
      refine wp_putI dX11_years_37 (Or.inl fpX11_393) rfl ⟨rfl, rfl⟩ (sk310 hS) (sn310 hS) ?_
      refine wp_aload_n dX11_years_40 rfl rfl ?_
      refine wp_iconst (v := 0) dX11_years_41 (by decide) ?_
      refine wp_putI dX11_years_42 (Or.inl fpX11_297) rfl ⟨rfl, rfl⟩ (sk310 hS) (sn310 hS) ?_
      refine wp_iconst (v := 0) dX11_years_45 (by decide) ?_
      refine wp_istore (ls' := [(4, .int 0), (0, .ref 310), (1, .int a2), (2, .int a3), (3, .int a4)]) dX11_years_46 (Nat.le_of_ble_eq_true rfl) rfl ?_
      obtain ⟨I16, hL925, h⟩ := obi h
      refine wp_pick (ks := [1, 3, 4, 0]) rfl (wX11_years_48 N d hd hS  a3 a4 N 0 (upd2 (upd2 I11 310 47 a2) 310 36 0) _ hL925 (fun _ e26 => ?_))
      cases e26
      refine wp_iload_n dX11_years_64 rfl rfl ?_
      refine wp_if_ne (tgt := 80) dX11_years_65 (by decide) (fun hc17 => ?_) (fun hc17 => ?_)
      · have h := ite_f hc17 h
        refine wp_iload_n dX11_years_80 rfl rfl ?_
        refine wp_iconst (v := 1) dX11_years_81 (by decide) ?_
        refine wp_icmp_ne (tgt := 92) dX11_years_82 (by decide) (fun hc18 => ?_) (fun hc18 => ?_)
        · have h := ite_f hc18 h
          refine wp_aload_n dX11_years_92 rfl rfl ?_
          refine wp_bipush (v := 82) dX11_years_93 (by decide) ?_
          obtain ⟨r19, hF20, h⟩ := obi h
          refine wp_callVi (ci := 11) (As := [.int 82]) dX11_years_95 lbX11_takenAll mlX11_321 imX11_takenAll seX11_takenAll vc11 (ct_X11_takenAll N 3 (Nat.le_refl _) hS  hF20) rfl rfl (Nat.le_trans (by decide) hd) (sk310 hS) (sn310 hS) (Nat.le_of_ble_eq_true rfl) (fun _ => ?_)
          exact wp_iret dX11_years_98 rfl (by obtain rfl := sji h; exact ⟨rfl, rfl, rfl, rfl⟩)
        · have h := ite_t hc18 h
          refine wp_aload_n dX11_years_85 rfl rfl ?_
          refine wp_getI dX11_years_86 flX11_297 rfl (sk310 hS) (sn310 hS) ?_
          refine wp_goto (tgt := 98) dX11_years_89 (by decide) ?_
          exact wp_iret dX11_years_98 rfl (by obtain rfl := sji h; exact ⟨rfl, rfl, rfl, rfl⟩)
      · have h := ite_t hc17 h
        refine wp_aload_n dX11_years_68 rfl rfl ?_
        refine wp_bipush (v := 82) dX11_years_69 (by decide) ?_
        obtain ⟨r21, hF22, h⟩ := obi h
        refine wp_callVi (ci := 11) (As := [.int 82]) dX11_years_71 lbX11_standing mlX11_309 imX11_standing seX11_standing vc11 (ct_X11_standing N 1 (Nat.le_refl _) hS  hF22) rfl rfl (Nat.le_trans (by decide) hd) (sk310 hS) (sn310 hS) (Nat.le_of_ble_eq_true rfl) (fun _ => ?_)
        obtain ⟨r23, hF24, h⟩ := obi h
        refine wp_callSi (As := [.int r21]) dX11_years_74 lbX11_bits mlX11_275 smX11_bits (ct_X11_bits N 0 (Nat.le_refl _) hS  hF24) rfl rfl (Nat.le_trans (by decide) hd) (Nat.le_of_ble_eq_true rfl) (fun _ => ?_)
        refine wp_goto (tgt := 98) dX11_years_77 (by decide) ?_
        exact wp_iret dX11_years_98 rfl (by obtain rfl := sji h; exact ⟨rfl, rfl, rfl, rfl⟩)
    · have h := ite_t hc10 h
      refine wp_iconst (v := 0) dX11_years_29 (by decide) ?_
      exact wp_iret dX11_years_30 rfl (by obtain rfl := sji h; exact ⟨rfl, rfl, rfl, rfl⟩)
def mX11_copies_318_335_2  : Nat → Int32 → gI → Option (gI)
  | 0, _, _ => none
  | n + 1, v3, I => if 3280 ≤ v3 then (some I) else (ck v3 3280 (mX11_copies_318_335_2 n (v3 + 1) (upd2 I 335 v3.toNatClampNeg (I 318 v3.toNatClampNeg))))
def mX11_copies_318_335 (N : Nat) (I : gI) : Option (gI) := Option.bind (mX11_copies_318_335_2 N 0 I) (fun I3 => some I3)
set_option maxHeartbeats 4000000 in
set_option maxRecDepth 100000 in
theorem wX11_copies_318_335_2 (d : Nat) (hd : 0 ≤ d) {S : gS} {J : gJ} (hS : Sh S)  {Q : gO → gS → gI → gJ → Prop} :
    ∀ (n : Nat) (v3 : Int32) (I : gI) (res : gI), mX11_copies_318_335_2 n v3 I = some res → (∀ (O : gI), res = O → Wp RX11 cX11_copies 4 none [] hF d 0 0 20 [] [] S O J Q) → Wp RX11 cX11_copies 4 none [] hF d 0 0 2 [(1, .ref 318), (2, .ref 335), (3, .int v3)] [] S I J Q := by
  intro n
  induction n with
  | zero => intro v3 I res h; exact nso h
  | succ n ih =>
    intro v3 I res h kx
    rw [mX11_copies_318_335_2] at h
    refine wp_iload_n dX11_copies_2 rfl rfl ?_
    refine wp_aload_n dX11_copies_3 rfl rfl ?_
    refine wp_alen (v := 3280) dX11_copies_4 (sk318 hS) (by decide) (sn318 hS) (by decide) ?_
    refine wp_icmp_ge (tgt := 20) dX11_copies_5 (by decide) (fun hc1 => ?_) (fun hc1 => ?_)
    · have h := ite_t hc1 h
      exact wp_pick (ks := []) rfl (kx _ (sji h).symm)
    · have h := ite_f hc1 h
      refine wp_aload_n dX11_copies_8 rfl rfl ?_
      refine wp_iload_n dX11_copies_9 rfl rfl ?_
      refine wp_aload_n dX11_copies_10 rfl rfl ?_
      refine wp_iload_n dX11_copies_11 rfl rfl ?_
      obtain ⟨hb2, h⟩ := ck_inv h
      refine wp_iald dX11_copies_12 (sk318 hS) (sn318 hS) hb2 ?_
      refine wp_iast dX11_copies_13 (sk335 hS) (sn335 hS) hb2 ?_
      refine wp_iinc (v := 1) (ls' := [(3, .int (v3 + 1)), (1, .ref 318), (2, .ref 335)]) dX11_copies_14 rfl (by decide) (Nat.le_of_ble_eq_true rfl) rfl ?_
      refine wp_goto (tgt := 2) dX11_copies_17 (by decide) ?_
      exact wp_pick (ks := [1, 2, 0]) rfl (ih _ _ _ h kx)
set_option maxHeartbeats 4000000 in
set_option maxRecDepth 100000 in
theorem ct_X11_copies_318_335 (N : Nat) (d : Nat) (hd : 0 ≤ d) {S : gS} {J : gJ} (hS : Sh S)  {I : gI} {r : gI} (h : mX11_copies_318_335 N I = some r) : Ct yX11_copies (wsY yX11_copies cX11_copies 4 none) d 0 0 [.ref 310, .ref 318, .ref 335] S I J (qE (.inl none) S r J) := by
  refine Ct.of hF (fun _ _ _ _ _ => trivial) (by decide +kernel) (Nat.le_of_ble_eq_true rfl) ⟨Or.inl (sn310 hS), Or.inl (sn318 hS), Or.inl (sn335 hS), trivial⟩ ?_
  show Wp RX11 cX11_copies 4 none [] hF d 0 0 0 [(0, .ref 310), (1, .ref 318), (2, .ref 335)] [] S I J _
  unfold mX11_copies_318_335 at h
  refine wp_iconst (v := 0) dX11_copies_0 (by decide) ?_
  refine wp_istore_n (ls' := [(3, .int 0), (0, .ref 310), (1, .ref 318), (2, .ref 335)]) dX11_copies_1 rfl (Nat.le_of_ble_eq_true rfl) rfl ?_
  obtain ⟨I3, hL94, h⟩ := obi h
  refine wp_pick (ks := [2, 3, 0]) rfl (wX11_copies_318_335_2 d hd hS   N 0 I _ hL94 (fun _ e5 => ?_))
  cases e5
  exact wp_vret dX11_copies_20 rfl (by obtain rfl := sji h; exact ⟨rfl, rfl, rfl, rfl⟩)
def mX11_copies_333_336_2  : Nat → Int32 → gI → Option (gI)
  | 0, _, _ => none
  | n + 1, v3, I => if 40 ≤ v3 then (some I) else (ck v3 40 (mX11_copies_333_336_2 n (v3 + 1) (upd2 I 336 v3.toNatClampNeg (I 333 v3.toNatClampNeg))))
def mX11_copies_333_336 (N : Nat) (I : gI) : Option (gI) := Option.bind (mX11_copies_333_336_2 N 0 I) (fun I3 => some I3)
set_option maxHeartbeats 4000000 in
set_option maxRecDepth 100000 in
theorem wX11_copies_333_336_2 (d : Nat) (hd : 0 ≤ d) {S : gS} {J : gJ} (hS : Sh S)  {Q : gO → gS → gI → gJ → Prop} :
    ∀ (n : Nat) (v3 : Int32) (I : gI) (res : gI), mX11_copies_333_336_2 n v3 I = some res → (∀ (O : gI), res = O → Wp RX11 cX11_copies 4 none [] hF d 0 0 20 [] [] S O J Q) → Wp RX11 cX11_copies 4 none [] hF d 0 0 2 [(1, .ref 333), (2, .ref 336), (3, .int v3)] [] S I J Q := by
  intro n
  induction n with
  | zero => intro v3 I res h; exact nso h
  | succ n ih =>
    intro v3 I res h kx
    rw [mX11_copies_333_336_2] at h
    refine wp_iload_n dX11_copies_2 rfl rfl ?_
    refine wp_aload_n dX11_copies_3 rfl rfl ?_
    refine wp_alen (v := 40) dX11_copies_4 (sk333 hS) (by decide) (sn333 hS) (by decide) ?_
    refine wp_icmp_ge (tgt := 20) dX11_copies_5 (by decide) (fun hc1 => ?_) (fun hc1 => ?_)
    · have h := ite_t hc1 h
      exact wp_pick (ks := []) rfl (kx _ (sji h).symm)
    · have h := ite_f hc1 h
      refine wp_aload_n dX11_copies_8 rfl rfl ?_
      refine wp_iload_n dX11_copies_9 rfl rfl ?_
      refine wp_aload_n dX11_copies_10 rfl rfl ?_
      refine wp_iload_n dX11_copies_11 rfl rfl ?_
      obtain ⟨hb2, h⟩ := ck_inv h
      refine wp_iald dX11_copies_12 (sk333 hS) (sn333 hS) hb2 ?_
      refine wp_iast dX11_copies_13 (sk336 hS) (sn336 hS) hb2 ?_
      refine wp_iinc (v := 1) (ls' := [(3, .int (v3 + 1)), (1, .ref 333), (2, .ref 336)]) dX11_copies_14 rfl (by decide) (Nat.le_of_ble_eq_true rfl) rfl ?_
      refine wp_goto (tgt := 2) dX11_copies_17 (by decide) ?_
      exact wp_pick (ks := [1, 2, 0]) rfl (ih _ _ _ h kx)
set_option maxHeartbeats 4000000 in
set_option maxRecDepth 100000 in
theorem ct_X11_copies_333_336 (N : Nat) (d : Nat) (hd : 0 ≤ d) {S : gS} {J : gJ} (hS : Sh S)  {I : gI} {r : gI} (h : mX11_copies_333_336 N I = some r) : Ct yX11_copies (wsY yX11_copies cX11_copies 4 none) d 0 0 [.ref 310, .ref 333, .ref 336] S I J (qE (.inl none) S r J) := by
  refine Ct.of hF (fun _ _ _ _ _ => trivial) (by decide +kernel) (Nat.le_of_ble_eq_true rfl) ⟨Or.inl (sn310 hS), Or.inl (sn333 hS), Or.inl (sn336 hS), trivial⟩ ?_
  show Wp RX11 cX11_copies 4 none [] hF d 0 0 0 [(0, .ref 310), (1, .ref 333), (2, .ref 336)] [] S I J _
  unfold mX11_copies_333_336 at h
  refine wp_iconst (v := 0) dX11_copies_0 (by decide) ?_
  refine wp_istore_n (ls' := [(3, .int 0), (0, .ref 310), (1, .ref 333), (2, .ref 336)]) dX11_copies_1 rfl (Nat.le_of_ble_eq_true rfl) rfl ?_
  obtain ⟨I3, hL94, h⟩ := obi h
  refine wp_pick (ks := [2, 3, 0]) rfl (wX11_copies_333_336_2 d hd hS   N 0 I _ hL94 (fun _ e5 => ?_))
  cases e5
  exact wp_vret dX11_copies_20 rfl (by obtain rfl := sji h; exact ⟨rfl, rfl, rfl, rfl⟩)
def mX11_image_28  : Nat → Int32 → gI → Option (gI)
  | 0, _, _ => none
  | n + 1, v1, I => if 82 ≤ v1 then (some I) else (ck v1 164 (ck v1 82 (mX11_image_28 n (v1 + 1) (upd2 I 334 v1.toNatClampNeg (I 317 v1.toNatClampNeg)))))
def mX11_image (N : Nat) (I : gI) : Option (gI) := nm (upd2 (upd2 (upd2 I 310 0 0) 310 48 1) 310 49 ((upd2 (upd2 I 310 0 0) 310 48 1) 310 25)) (fun I1 => Option.bind (mX11_image_28 N 0 (upd2 I1 310 50 (I1 310 45))) (fun I6 => Option.bind (mX11_copies_318_335 N I6) (fun I7 => Option.bind (mX11_copies_333_336 N I7) (fun I9 => some I9))))
set_option maxHeartbeats 4000000 in
set_option maxRecDepth 100000 in
theorem wX11_image_28 (d : Nat) (hd : 1 ≤ d) {S : gS} {J : gJ} (hS : Sh S)  {Q : gO → gS → gI → gJ → Prop} :
    ∀ (n : Nat) (v1 : Int32) (I : gI) (res : gI), mX11_image_28 n v1 I = some res → (∀ (O : gI), res = O → Wp RX11 cX11_image 2 none [] hF d 0 0 52 [(0, .ref 310)] [] S O J Q) → Wp RX11 cX11_image 2 none [] hF d 0 0 28 [(0, .ref 310), (1, .int v1)] [] S I J Q := by
  intro n
  induction n with
  | zero => intro v1 I res h; exact nso h
  | succ n ih =>
    intro v1 I res h kx
    rw [mX11_image_28] at h
    refine wp_iload_n dX11_image_28 rfl rfl ?_
    refine wp_bipush (v := 82) dX11_image_29 (by decide) ?_
    refine wp_icmp_ge (tgt := 52) dX11_image_31 (by decide) (fun hc3 => ?_) (fun hc3 => ?_)
    · have h := ite_t hc3 h
      exact wp_pick (ks := [0]) rfl (kx _ (sji h).symm)
    · have h := ite_f hc3 h
      refine wp_aload_n dX11_image_34 rfl rfl ?_
      refine wp_getR dX11_image_35 flX11_87 rfl (sk310 hS) (sn310 hS) (sr310_51 hS) ?_
      refine wp_iload_n dX11_image_38 rfl rfl ?_
      refine wp_aload_n dX11_image_39 rfl rfl ?_
      refine wp_getR dX11_image_40 flX11_35 rfl (sk310 hS) (sn310 hS) (sr310_23 hS) ?_
      refine wp_iload_n dX11_image_43 rfl rfl ?_
      obtain ⟨hb4, h⟩ := ck_inv h
      refine wp_iald dX11_image_44 (sk317 hS) (sn317 hS) hb4 ?_
      obtain ⟨hb5, h⟩ := ck_inv h
      refine wp_iast dX11_image_45 (sk334 hS) (sn334 hS) hb5 ?_
      refine wp_iinc (v := 1) (ls' := [(1, .int (v1 + 1)), (0, .ref 310)]) dX11_image_46 rfl (by decide) (Nat.le_of_ble_eq_true rfl) rfl ?_
      refine wp_goto (tgt := 28) dX11_image_49 (by decide) ?_
      exact wp_pick (ks := [1, 0]) rfl (ih _ _ _ h kx)
set_option maxHeartbeats 4000000 in
set_option maxRecDepth 100000 in
theorem ct_X11_image (N : Nat) (d : Nat) (hd : 1 ≤ d) {S : gS} {J : gJ} (hS : Sh S)  {I : gI} {r : gI} (h : mX11_image N I = some r) : Ct yX11_image (wsY yX11_image cX11_image 2 none) d 0 0 [.ref 310] S I J (qE (.inl none) S r J) := by
  refine Ct.of hF (fun _ _ _ _ _ => trivial) (by decide +kernel) (Nat.le_of_ble_eq_true rfl) ⟨Or.inl (sn310 hS), trivial⟩ ?_
  show Wp RX11 cX11_image 2 none [] hF d 0 0 0 [(0, .ref 310)] [] S I J _
  unfold mX11_image at h
  refine wp_aload_n dX11_image_0 rfl rfl ?_
  refine wp_iconst (v := 0) dX11_image_1 (by decide) ?_
  refine wp_putI dX11_image_2 (Or.inl fpX11_96) rfl ⟨rfl, rfl⟩ (sk310 hS) (sn310 hS) ?_
  refine wp_aload_n dX11_image_5 rfl rfl ?_
  refine wp_iconst (v := 1) dX11_image_6 (by decide) ?_
  refine wp_putI dX11_image_7 (Or.inl fpX11_215) rfl ⟨rfl, rfl⟩ (sk310 hS) (sn310 hS) ?_
  refine wp_aload_n dX11_image_10 rfl rfl ?_
  refine wp_aload_n dX11_image_11 rfl rfl ?_
  refine wp_getI dX11_image_12 flX11_209 rfl (sk310 hS) (sn310 hS) ?_
  refine wp_putI dX11_image_15 (Or.inl fpX11_403) rfl ⟨rfl, rfl⟩ (sk310 hS) (sn310 hS) ?_
  obtain ⟨I1, hx2, h⟩ := nm_inv h
  refine wp_nmI hx2 ?_
  refine wp_aload_n dX11_image_18 rfl rfl ?_
  refine wp_aload_n dX11_image_19 rfl rfl ?_
  refine wp_getI dX11_image_20 flX11_212 rfl (sk310 hS) (sn310 hS) ?_
  refine wp_putI dX11_image_23 (Or.inl fpX11_406) rfl ⟨rfl, rfl⟩ (sk310 hS) (sn310 hS) ?_
  refine wp_iconst (v := 0) dX11_image_26 (by decide) ?_
  refine wp_istore_n (ls' := [(1, .int 0), (0, .ref 310)]) dX11_image_27 rfl (Nat.le_of_ble_eq_true rfl) rfl ?_
  obtain ⟨I6, hL911, h⟩ := obi h
  refine wp_pick (ks := [1, 0]) rfl (wX11_image_28 d hd hS   N 0 (upd2 I1 310 50 (I1 310 45)) _ hL911 (fun _ e12 => ?_))
  cases e12
  refine wp_aload_n dX11_image_52 rfl rfl ?_
  refine wp_aload_n dX11_image_53 rfl rfl ?_
  refine wp_getR dX11_image_54 flX11_38 rfl (sk310 hS) (sn310 hS) (sr310_24 hS) ?_
  refine wp_aload_n dX11_image_57 rfl rfl ?_
  refine wp_getR dX11_image_58 flX11_90 rfl (sk310 hS) (sn310 hS) (sr310_52 hS) ?_
  obtain ⟨I7, hF8, h⟩ := obi h
  refine wp_callVv (ci := 11) (As := [.ref 318, .ref 335]) dX11_image_61 lbX11_copies mlX11_205 imX11_copies seX11_copies vc11 (ct_X11_copies_318_335 N 0 (Nat.le_refl _) hS  hF8) rfl rfl (Nat.le_trans (by decide) hd) (sk310 hS) (sn310 hS) (Nat.le_of_ble_eq_true rfl) (fun _ => ?_)
  refine wp_aload_n dX11_image_64 rfl rfl ?_
  refine wp_aload_n dX11_image_65 rfl rfl ?_
  refine wp_getR dX11_image_66 flX11_84 rfl (sk310 hS) (sn310 hS) (sr310_46 hS) ?_
  refine wp_aload_n dX11_image_69 rfl rfl ?_
  refine wp_getR dX11_image_70 flX11_93 rfl (sk310 hS) (sn310 hS) (sr310_53 hS) ?_
  obtain ⟨I9, hF10, h⟩ := obi h
  refine wp_callVv (ci := 11) (As := [.ref 333, .ref 336]) dX11_image_73 lbX11_copies mlX11_205 imX11_copies seX11_copies vc11 (ct_X11_copies_333_336 N 0 (Nat.le_refl _) hS  hF10) rfl rfl (Nat.le_trans (by decide) hd) (sk310 hS) (sn310 hS) (Nat.le_of_ble_eq_true rfl) (fun _ => ?_)
  exact wp_vret dX11_image_76 rfl (by obtain rfl := sji h; exact ⟨rfl, rfl, rfl, rfl⟩)
def mX11_copies_335_318_2  : Nat → Int32 → gI → Option (gI)
  | 0, _, _ => none
  | n + 1, v3, I => if 3280 ≤ v3 then (some I) else (ck v3 3280 (mX11_copies_335_318_2 n (v3 + 1) (upd2 I 318 v3.toNatClampNeg (I 335 v3.toNatClampNeg))))
def mX11_copies_335_318 (N : Nat) (I : gI) : Option (gI) := Option.bind (mX11_copies_335_318_2 N 0 I) (fun I3 => some I3)
set_option maxHeartbeats 4000000 in
set_option maxRecDepth 100000 in
theorem wX11_copies_335_318_2 (d : Nat) (hd : 0 ≤ d) {S : gS} {J : gJ} (hS : Sh S)  {Q : gO → gS → gI → gJ → Prop} :
    ∀ (n : Nat) (v3 : Int32) (I : gI) (res : gI), mX11_copies_335_318_2 n v3 I = some res → (∀ (O : gI), res = O → Wp RX11 cX11_copies 4 none [] hF d 0 0 20 [] [] S O J Q) → Wp RX11 cX11_copies 4 none [] hF d 0 0 2 [(1, .ref 335), (2, .ref 318), (3, .int v3)] [] S I J Q := by
  intro n
  induction n with
  | zero => intro v3 I res h; exact nso h
  | succ n ih =>
    intro v3 I res h kx
    rw [mX11_copies_335_318_2] at h
    refine wp_iload_n dX11_copies_2 rfl rfl ?_
    refine wp_aload_n dX11_copies_3 rfl rfl ?_
    refine wp_alen (v := 3280) dX11_copies_4 (sk335 hS) (by decide) (sn335 hS) (by decide) ?_
    refine wp_icmp_ge (tgt := 20) dX11_copies_5 (by decide) (fun hc1 => ?_) (fun hc1 => ?_)
    · have h := ite_t hc1 h
      exact wp_pick (ks := []) rfl (kx _ (sji h).symm)
    · have h := ite_f hc1 h
      refine wp_aload_n dX11_copies_8 rfl rfl ?_
      refine wp_iload_n dX11_copies_9 rfl rfl ?_
      refine wp_aload_n dX11_copies_10 rfl rfl ?_
      refine wp_iload_n dX11_copies_11 rfl rfl ?_
      obtain ⟨hb2, h⟩ := ck_inv h
      refine wp_iald dX11_copies_12 (sk335 hS) (sn335 hS) hb2 ?_
      refine wp_iast dX11_copies_13 (sk318 hS) (sn318 hS) hb2 ?_
      refine wp_iinc (v := 1) (ls' := [(3, .int (v3 + 1)), (1, .ref 335), (2, .ref 318)]) dX11_copies_14 rfl (by decide) (Nat.le_of_ble_eq_true rfl) rfl ?_
      refine wp_goto (tgt := 2) dX11_copies_17 (by decide) ?_
      exact wp_pick (ks := [1, 2, 0]) rfl (ih _ _ _ h kx)
set_option maxHeartbeats 4000000 in
set_option maxRecDepth 100000 in
theorem ct_X11_copies_335_318 (N : Nat) (d : Nat) (hd : 0 ≤ d) {S : gS} {J : gJ} (hS : Sh S)  {I : gI} {r : gI} (h : mX11_copies_335_318 N I = some r) : Ct yX11_copies (wsY yX11_copies cX11_copies 4 none) d 0 0 [.ref 310, .ref 335, .ref 318] S I J (qE (.inl none) S r J) := by
  refine Ct.of hF (fun _ _ _ _ _ => trivial) (by decide +kernel) (Nat.le_of_ble_eq_true rfl) ⟨Or.inl (sn310 hS), Or.inl (sn335 hS), Or.inl (sn318 hS), trivial⟩ ?_
  show Wp RX11 cX11_copies 4 none [] hF d 0 0 0 [(0, .ref 310), (1, .ref 335), (2, .ref 318)] [] S I J _
  unfold mX11_copies_335_318 at h
  refine wp_iconst (v := 0) dX11_copies_0 (by decide) ?_
  refine wp_istore_n (ls' := [(3, .int 0), (0, .ref 310), (1, .ref 335), (2, .ref 318)]) dX11_copies_1 rfl (Nat.le_of_ble_eq_true rfl) rfl ?_
  obtain ⟨I3, hL94, h⟩ := obi h
  refine wp_pick (ks := [2, 3, 0]) rfl (wX11_copies_335_318_2 d hd hS   N 0 I _ hL94 (fun _ e5 => ?_))
  cases e5
  exact wp_vret dX11_copies_20 rfl (by obtain rfl := sji h; exact ⟨rfl, rfl, rfl, rfl⟩)
def mX11_copies_336_333_2  : Nat → Int32 → gI → Option (gI)
  | 0, _, _ => none
  | n + 1, v3, I => if 40 ≤ v3 then (some I) else (ck v3 40 (mX11_copies_336_333_2 n (v3 + 1) (upd2 I 333 v3.toNatClampNeg (I 336 v3.toNatClampNeg))))
def mX11_copies_336_333 (N : Nat) (I : gI) : Option (gI) := Option.bind (mX11_copies_336_333_2 N 0 I) (fun I3 => some I3)
set_option maxHeartbeats 4000000 in
set_option maxRecDepth 100000 in
theorem wX11_copies_336_333_2 (d : Nat) (hd : 0 ≤ d) {S : gS} {J : gJ} (hS : Sh S)  {Q : gO → gS → gI → gJ → Prop} :
    ∀ (n : Nat) (v3 : Int32) (I : gI) (res : gI), mX11_copies_336_333_2 n v3 I = some res → (∀ (O : gI), res = O → Wp RX11 cX11_copies 4 none [] hF d 0 0 20 [] [] S O J Q) → Wp RX11 cX11_copies 4 none [] hF d 0 0 2 [(1, .ref 336), (2, .ref 333), (3, .int v3)] [] S I J Q := by
  intro n
  induction n with
  | zero => intro v3 I res h; exact nso h
  | succ n ih =>
    intro v3 I res h kx
    rw [mX11_copies_336_333_2] at h
    refine wp_iload_n dX11_copies_2 rfl rfl ?_
    refine wp_aload_n dX11_copies_3 rfl rfl ?_
    refine wp_alen (v := 40) dX11_copies_4 (sk336 hS) (by decide) (sn336 hS) (by decide) ?_
    refine wp_icmp_ge (tgt := 20) dX11_copies_5 (by decide) (fun hc1 => ?_) (fun hc1 => ?_)
    · have h := ite_t hc1 h
      exact wp_pick (ks := []) rfl (kx _ (sji h).symm)
    · have h := ite_f hc1 h
      refine wp_aload_n dX11_copies_8 rfl rfl ?_
      refine wp_iload_n dX11_copies_9 rfl rfl ?_
      refine wp_aload_n dX11_copies_10 rfl rfl ?_
      refine wp_iload_n dX11_copies_11 rfl rfl ?_
      obtain ⟨hb2, h⟩ := ck_inv h
      refine wp_iald dX11_copies_12 (sk336 hS) (sn336 hS) hb2 ?_
      refine wp_iast dX11_copies_13 (sk333 hS) (sn333 hS) hb2 ?_
      refine wp_iinc (v := 1) (ls' := [(3, .int (v3 + 1)), (1, .ref 336), (2, .ref 333)]) dX11_copies_14 rfl (by decide) (Nat.le_of_ble_eq_true rfl) rfl ?_
      refine wp_goto (tgt := 2) dX11_copies_17 (by decide) ?_
      exact wp_pick (ks := [1, 2, 0]) rfl (ih _ _ _ h kx)
set_option maxHeartbeats 4000000 in
set_option maxRecDepth 100000 in
theorem ct_X11_copies_336_333 (N : Nat) (d : Nat) (hd : 0 ≤ d) {S : gS} {J : gJ} (hS : Sh S)  {I : gI} {r : gI} (h : mX11_copies_336_333 N I = some r) : Ct yX11_copies (wsY yX11_copies cX11_copies 4 none) d 0 0 [.ref 310, .ref 336, .ref 333] S I J (qE (.inl none) S r J) := by
  refine Ct.of hF (fun _ _ _ _ _ => trivial) (by decide +kernel) (Nat.le_of_ble_eq_true rfl) ⟨Or.inl (sn310 hS), Or.inl (sn336 hS), Or.inl (sn333 hS), trivial⟩ ?_
  show Wp RX11 cX11_copies 4 none [] hF d 0 0 0 [(0, .ref 310), (1, .ref 336), (2, .ref 333)] [] S I J _
  unfold mX11_copies_336_333 at h
  refine wp_iconst (v := 0) dX11_copies_0 (by decide) ?_
  refine wp_istore_n (ls' := [(3, .int 0), (0, .ref 310), (1, .ref 336), (2, .ref 333)]) dX11_copies_1 rfl (Nat.le_of_ble_eq_true rfl) rfl ?_
  obtain ⟨I3, hL94, h⟩ := obi h
  refine wp_pick (ks := [2, 3, 0]) rfl (wX11_copies_336_333_2 d hd hS   N 0 I _ hL94 (fun _ e5 => ?_))
  cases e5
  exact wp_vret dX11_copies_20 rfl (by obtain rfl := sji h; exact ⟨rfl, rfl, rfl, rfl⟩)
def mX11_restore_32  : Nat → Int32 → gI → Option (gI)
  | 0, _, _ => none
  | n + 1, v1, I => if 82 ≤ v1 then (some I) else (ck v1 82 (ck v1 164 (mX11_restore_32 n (v1 + 1) (upd2 I 317 v1.toNatClampNeg (I 334 v1.toNatClampNeg)))))
def mX11_restore (N : Nat) (I : gI) : Option (Int32 × gI) := if ((upd2 I 310 0 0) 310 48) = 0 then (some (0, upd2 I 310 0 0)) else (nm ((upd2 (upd2 I 310 0 0) 310 25 ((upd2 I 310 0 0) 310 49)) 310 50) (fun x2 => nm (upd2 (upd2 (upd2 I 310 0 0) 310 25 ((upd2 I 310 0 0) 310 49)) 310 45 x2) (fun I4 => Option.bind (mX11_restore_32 N 0 I4) (fun I9 => Option.bind (mX11_copies_335_318 N I9) (fun I10 => Option.bind (mX11_copies_336_333 N I10) (fun I12 => some (1, I12)))))))
set_option maxHeartbeats 4000000 in
set_option maxRecDepth 100000 in
theorem wX11_restore_32 (d : Nat) (hd : 1 ≤ d) {S : gS} {J : gJ} (hS : Sh S)  {Q : gO → gS → gI → gJ → Prop} :
    ∀ (n : Nat) (v1 : Int32) (I : gI) (res : gI), mX11_restore_32 n v1 I = some res → (∀ (O : gI), res = O → Wp RX11 cX11_restore 2 (some .boolean) [] hF d 0 0 56 [(0, .ref 310)] [] S O J Q) → Wp RX11 cX11_restore 2 (some .boolean) [] hF d 0 0 32 [(0, .ref 310), (1, .int v1)] [] S I J Q := by
  intro n
  induction n with
  | zero => intro v1 I res h; exact nso h
  | succ n ih =>
    intro v1 I res h kx
    rw [mX11_restore_32] at h
    refine wp_iload_n dX11_restore_32 rfl rfl ?_
    refine wp_bipush (v := 82) dX11_restore_33 (by decide) ?_
    refine wp_icmp_ge (tgt := 56) dX11_restore_35 (by decide) (fun hc6 => ?_) (fun hc6 => ?_)
    · have h := ite_t hc6 h
      exact wp_pick (ks := [0]) rfl (kx _ (sji h).symm)
    · have h := ite_f hc6 h
      refine wp_aload_n dX11_restore_38 rfl rfl ?_
      refine wp_getR dX11_restore_39 flX11_35 rfl (sk310 hS) (sn310 hS) (sr310_23 hS) ?_
      refine wp_iload_n dX11_restore_42 rfl rfl ?_
      refine wp_aload_n dX11_restore_43 rfl rfl ?_
      refine wp_getR dX11_restore_44 flX11_87 rfl (sk310 hS) (sn310 hS) (sr310_51 hS) ?_
      refine wp_iload_n dX11_restore_47 rfl rfl ?_
      obtain ⟨hb7, h⟩ := ck_inv h
      refine wp_iald dX11_restore_48 (sk334 hS) (sn334 hS) hb7 ?_
      obtain ⟨hb8, h⟩ := ck_inv h
      refine wp_iast dX11_restore_49 (sk317 hS) (sn317 hS) hb8 ?_
      refine wp_iinc (v := 1) (ls' := [(1, .int (v1 + 1)), (0, .ref 310)]) dX11_restore_50 rfl (by decide) (Nat.le_of_ble_eq_true rfl) rfl ?_
      refine wp_goto (tgt := 32) dX11_restore_53 (by decide) ?_
      exact wp_pick (ks := [1, 0]) rfl (ih _ _ _ h kx)
set_option maxHeartbeats 4000000 in
set_option maxRecDepth 100000 in
theorem ct_X11_restore (N : Nat) (d : Nat) (hd : 1 ≤ d) {S : gS} {J : gJ} (hS : Sh S)  {I : gI} {r : Int32 × gI} (h : mX11_restore N I = some r) : Ct yX11_restore (wsY yX11_restore cX11_restore 2 (some .boolean)) d 0 0 [.ref 310] S I J (qE (.inl (some (.int r.1))) S r.2 J) := by
  refine Ct.of hF (fun _ _ _ _ _ => trivial) (by decide +kernel) (Nat.le_of_ble_eq_true rfl) ⟨Or.inl (sn310 hS), trivial⟩ ?_
  show Wp RX11 cX11_restore 2 (some .boolean) [] hF d 0 0 0 [(0, .ref 310)] [] S I J _
  unfold mX11_restore at h
  refine wp_aload_n dX11_restore_0 rfl rfl ?_
  refine wp_iconst (v := 0) dX11_restore_1 (by decide) ?_
  refine wp_putI dX11_restore_2 (Or.inl fpX11_96) rfl ⟨rfl, rfl⟩ (sk310 hS) (sn310 hS) ?_
  refine wp_aload_n dX11_restore_5 rfl rfl ?_
  refine wp_getI dX11_restore_6 flX11_215 rfl (sk310 hS) (sn310 hS) ?_
  refine wp_if_ne (tgt := 14) dX11_restore_9 (by decide) (fun hc1 => ?_) (fun hc1 => ?_)
  · have h := ite_f hc1 h
    refine wp_aload_n dX11_restore_14 rfl rfl ?_
    refine wp_aload_n dX11_restore_15 rfl rfl ?_
    refine wp_getI dX11_restore_16 flX11_403 rfl (sk310 hS) (sn310 hS) ?_
    refine wp_putI dX11_restore_19 (Or.inl fpX11_209) rfl ⟨rfl, rfl⟩ (sk310 hS) (sn310 hS) ?_
    refine wp_aload_n dX11_restore_22 rfl rfl ?_
    refine wp_aload_n dX11_restore_23 rfl rfl ?_
    refine wp_getI dX11_restore_24 flX11_406 rfl (sk310 hS) (sn310 hS) ?_
    obtain ⟨x2, hx3, h⟩ := nm_inv h
    refine wp_topi hx3 ?_
    refine wp_putI dX11_restore_27 (Or.inl fpX11_212) rfl ⟨rfl, rfl⟩ (sk310 hS) (sn310 hS) ?_
    obtain ⟨I4, hx5, h⟩ := nm_inv h
    refine wp_nmI hx5 ?_
    refine wp_iconst (v := 0) dX11_restore_30 (by decide) ?_
    refine wp_istore_n (ls' := [(1, .int 0), (0, .ref 310)]) dX11_restore_31 rfl (Nat.le_of_ble_eq_true rfl) rfl ?_
    obtain ⟨I9, hL914, h⟩ := obi h
    refine wp_pick (ks := [1, 0]) rfl (wX11_restore_32 d hd hS   N 0 I4 _ hL914 (fun _ e15 => ?_))
    cases e15
    refine wp_aload_n dX11_restore_56 rfl rfl ?_
    refine wp_aload_n dX11_restore_57 rfl rfl ?_
    refine wp_getR dX11_restore_58 flX11_90 rfl (sk310 hS) (sn310 hS) (sr310_52 hS) ?_
    refine wp_aload_n dX11_restore_61 rfl rfl ?_
    refine wp_getR dX11_restore_62 flX11_38 rfl (sk310 hS) (sn310 hS) (sr310_24 hS) ?_
    obtain ⟨I10, hF11, h⟩ := obi h
    refine wp_callVv (ci := 11) (As := [.ref 335, .ref 318]) dX11_restore_65 lbX11_copies mlX11_205 imX11_copies seX11_copies vc11 (ct_X11_copies_335_318 N 0 (Nat.le_refl _) hS  hF11) rfl rfl (Nat.le_trans (by decide) hd) (sk310 hS) (sn310 hS) (Nat.le_of_ble_eq_true rfl) (fun _ => ?_)
    refine wp_aload_n dX11_restore_68 rfl rfl ?_
    refine wp_aload_n dX11_restore_69 rfl rfl ?_
    refine wp_getR dX11_restore_70 flX11_93 rfl (sk310 hS) (sn310 hS) (sr310_53 hS) ?_
    refine wp_aload_n dX11_restore_73 rfl rfl ?_
    refine wp_getR dX11_restore_74 flX11_84 rfl (sk310 hS) (sn310 hS) (sr310_46 hS) ?_
    obtain ⟨I12, hF13, h⟩ := obi h
    refine wp_callVv (ci := 11) (As := [.ref 336, .ref 333]) dX11_restore_77 lbX11_copies mlX11_205 imX11_copies seX11_copies vc11 (ct_X11_copies_336_333 N 0 (Nat.le_refl _) hS  hF13) rfl rfl (Nat.le_trans (by decide) hd) (sk310 hS) (sn310 hS) (Nat.le_of_ble_eq_true rfl) (fun _ => ?_)
    refine wp_iconst (v := 1) dX11_restore_80 (by decide) ?_
    exact wp_zret dX11_restore_81 rfl (by decide) (by obtain rfl := sji h; exact ⟨rfl, rfl, rfl, rfl⟩)
  · have h := ite_t hc1 h
    refine wp_iconst (v := 0) dX11_restore_12 (by decide) ?_
    exact wp_zret dX11_restore_13 rfl (by decide) (by obtain rfl := sji h; exact ⟨rfl, rfl, rfl, rfl⟩)
