def mX10_count (N : Nat) (a2 : Int32) (I : gI) : Option ((Int32 ⊕ String) × gI) := if a2 = 0 then (some (.inl (I 2 0), I)) else (if a2 = 1 then (some (.inl (I 2 1), I)) else (if a2 = 2 then (some (.inl (I 2 2), I)) else (if a2 = 3 then (Option.bind (mX2_standing N 36 I) (fun r5 => some (.inl r5, I))) else (if a2 = 4 then (some (.inl (I 36 2), I)) else (if a2 = 5 then (Option.bind (mX2_takenOfAll N 36 I) (fun r9 => some (.inl r9, I))) else (if a2 = 6 then (Option.bind (mX2_metricOfAll N 36 I) (fun r12 => some (.inl r12, I))) else (if a2 = 7 then (Option.bind (mX2_fullestLink N 36 I) (fun r15 => some (.inl r15, I))) else (if a2 = 8 then (Option.bind (mX2_fullestLink N 36 I) (fun r18 => Option.bind (mX2_percentOf N 36 r18 I) (fun r20 => some (.inl r20, I)))) else (if a2 = 9 then (Option.bind (mX10_worstLink N I) (fun (r23, I24) => some (.inl r23, I24))) else (if a2 = 10 then (Option.bind (mX10_worstLink N I) (fun (r27, I28) => Option.bind (mX10_lostBy N r27 I28) (fun (r30, I31) => some (.inl r30, I31)))) else (if a2 = 11 then (some (.inl (I 51 2), I)) else (if a2 = 12 then (some (.inl (I 173 5), I)) else (if a2 = 13 then (some (.inl (I 0 1), I)) else (if a2 = 14 then (some (.inl (I 0 3), I)) else (if a2 = 15 then (some (.inl (I 0 4), I)) else (if a2 = 16 then (some (.inl (I 0 5), I)) else (some (.inr "java/util/NoSuchElementException", I))))))))))))))))))
set_option maxHeartbeats 4000000 in
set_option maxRecDepth 100000 in
theorem ct_X10_count (N : Nat) (d : Nat) (hd : 9 ≤ d) {S : gS} {J : gJ} (hS : Sh S)  {a2 : Int32} {I : gI} {r : (Int32 ⊕ String) × gI} (h : mX10_count N a2 I = some r) : Ct yX10_count (wsY yX10_count cX10_count 2 (some .int)) d 1 6 [.ref 0, .int a2] S I J (qE (oI r.1) S r.2 J) := by
  refine Ct.of hF (fun _ _ _ _ _ => trivial) (by decide +kernel) (Nat.le_of_ble_eq_true rfl) ⟨Or.inl (sn0 hS), trivial, trivial⟩ ?_
  show Wp RX10 cX10_count 2 (some .int) [] hF d 1 6 0 [(0, .ref 0), (1, .int a2)] [] S I J _
  unfold mX10_count at h
  refine wp_iload_n dX10_count_0 rfl rfl ?_
  by_cases hc1 : a2 = 0
  · have h := ite_t hc1 h
    refine wp_tableIn (off := 83) (tgt := 84) dX10_count_1 (by rw [hc1]; decide) (by rw [hc1]; decide) (by rw [hc1]; decide +kernel) (by decide) ?_
    refine wp_aload_n dX10_count_84 rfl rfl ?_
    refine wp_getR dX10_count_85 flX10_20 rfl (sk0 hS) (sn0 hS) (sr0_6 hS) ?_
    refine wp_getI dX10_count_88 flX10_132 rfl (sk2 hS) (sn2 hS) ?_
    exact wp_iret dX10_count_91 rfl (by obtain rfl := sji h; exact ⟨rfl, rfl, rfl, rfl⟩)
  · have h := ite_f hc1 h
    by_cases hc2 : a2 = 1
    · have h := ite_t hc2 h
      refine wp_tableIn (off := 91) (tgt := 92) dX10_count_1 (by rw [hc2]; decide) (by rw [hc2]; decide) (by rw [hc2]; decide +kernel) (by decide) ?_
      refine wp_aload_n dX10_count_92 rfl rfl ?_
      refine wp_getR dX10_count_93 flX10_20 rfl (sk0 hS) (sn0 hS) (sr0_6 hS) ?_
      refine wp_getI dX10_count_96 flX10_135 rfl (sk2 hS) (sn2 hS) ?_
      exact wp_iret dX10_count_99 rfl (by obtain rfl := sji h; exact ⟨rfl, rfl, rfl, rfl⟩)
    · have h := ite_f hc2 h
      by_cases hc3 : a2 = 2
      · have h := ite_t hc3 h
        refine wp_tableIn (off := 99) (tgt := 100) dX10_count_1 (by rw [hc3]; decide) (by rw [hc3]; decide) (by rw [hc3]; decide +kernel) (by decide) ?_
        refine wp_aload_n dX10_count_100 rfl rfl ?_
        refine wp_getR dX10_count_101 flX10_20 rfl (sk0 hS) (sn0 hS) (sr0_6 hS) ?_
        refine wp_getI dX10_count_104 flX10_138 rfl (sk2 hS) (sn2 hS) ?_
        exact wp_iret dX10_count_107 rfl (by obtain rfl := sji h; exact ⟨rfl, rfl, rfl, rfl⟩)
      · have h := ite_f hc3 h
        by_cases hc4 : a2 = 3
        · have h := ite_t hc4 h
          refine wp_tableIn (off := 107) (tgt := 108) dX10_count_1 (by rw [hc4]; decide) (by rw [hc4]; decide) (by rw [hc4]; decide +kernel) (by decide) ?_
          refine wp_aload_n dX10_count_108 rfl rfl ?_
          refine wp_getR dX10_count_109 flX10_58 rfl (sk0 hS) (sn0 hS) (sr0_12 hS) ?_
          obtain ⟨r5, hF6, h⟩ := obi h
          refine wp_callVNi (ci := 2) (As := []) dX10_count_112 lbX2_standing mnX10_141 imX2_standing seX2_standing vc2 (ct_X2_standing N 0 (Nat.le_refl _) hS (le42 hS) hF6) rfl rfl (Nat.le_trans (by decide) hd) (sk42 hS) (sn42 hS) (Nat.le_of_ble_eq_true rfl) (fun _ => ?_)
          exact wp_iret dX10_count_115 rfl (by obtain rfl := sji h; exact ⟨rfl, rfl, rfl, rfl⟩)
        · have h := ite_f hc4 h
          by_cases hc7 : a2 = 4
          · have h := ite_t hc7 h
            refine wp_tableIn (off := 115) (tgt := 116) dX10_count_1 (by rw [hc7]; decide) (by rw [hc7]; decide) (by rw [hc7]; decide +kernel) (by decide) ?_
            refine wp_aload_n dX10_count_116 rfl rfl ?_
            refine wp_getR dX10_count_117 flX10_46 rfl (sk0 hS) (sn0 hS) (sr0_10 hS) ?_
            refine wp_getI dX10_count_120 flX10_145 rfl (sk36 hS) (sn36 hS) ?_
            exact wp_iret dX10_count_123 rfl (by obtain rfl := sji h; exact ⟨rfl, rfl, rfl, rfl⟩)
          · have h := ite_f hc7 h
            by_cases hc8 : a2 = 5
            · have h := ite_t hc8 h
              refine wp_tableIn (off := 123) (tgt := 124) dX10_count_1 (by rw [hc8]; decide) (by rw [hc8]; decide) (by rw [hc8]; decide +kernel) (by decide) ?_
              refine wp_aload_n dX10_count_124 rfl rfl ?_
              refine wp_getR dX10_count_125 flX10_58 rfl (sk0 hS) (sn0 hS) (sr0_12 hS) ?_
              obtain ⟨r9, hF10, h⟩ := obi h
              refine wp_callVNi (ci := 2) (As := []) dX10_count_128 lbX2_takenOfAll mnX10_148 imX2_takenOfAll seX2_takenOfAll vc2 (ct_X2_takenOfAll N 2 (Nat.le_refl _) hS (le42 hS) hF10) rfl rfl (Nat.le_trans (by decide) hd) (sk42 hS) (sn42 hS) (Nat.le_of_ble_eq_true rfl) (fun _ => ?_)
              exact wp_iret dX10_count_131 rfl (by obtain rfl := sji h; exact ⟨rfl, rfl, rfl, rfl⟩)
            · have h := ite_f hc8 h
              by_cases hc11 : a2 = 6
              · have h := ite_t hc11 h
                refine wp_tableIn (off := 131) (tgt := 132) dX10_count_1 (by rw [hc11]; decide) (by rw [hc11]; decide) (by rw [hc11]; decide +kernel) (by decide) ?_
                refine wp_aload_n dX10_count_132 rfl rfl ?_
                refine wp_getR dX10_count_133 flX10_58 rfl (sk0 hS) (sn0 hS) (sr0_12 hS) ?_
                obtain ⟨r12, hF13, h⟩ := obi h
                refine wp_callVNi (ci := 2) (As := []) dX10_count_136 lbX2_metricOfAll mnX10_151 imX2_metricOfAll seX2_metricOfAll vc2 (ct_X2_metricOfAll N 1 (Nat.le_refl _) hS (le42 hS) hF13) rfl rfl (Nat.le_trans (by decide) hd) (sk42 hS) (sn42 hS) (Nat.le_of_ble_eq_true rfl) (fun _ => ?_)
                exact wp_iret dX10_count_139 rfl (by obtain rfl := sji h; exact ⟨rfl, rfl, rfl, rfl⟩)
              · have h := ite_f hc11 h
                by_cases hc14 : a2 = 7
                · have h := ite_t hc14 h
                  refine wp_tableIn (off := 139) (tgt := 140) dX10_count_1 (by rw [hc14]; decide) (by rw [hc14]; decide) (by rw [hc14]; decide +kernel) (by decide) ?_
                  refine wp_aload_n dX10_count_140 rfl rfl ?_
                  refine wp_getR dX10_count_141 flX10_58 rfl (sk0 hS) (sn0 hS) (sr0_12 hS) ?_
                  obtain ⟨r15, hF16, h⟩ := obi h
                  refine wp_callVNi (ci := 2) (As := []) dX10_count_144 lbX2_fullestLink mnX10_154 imX2_fullestLink seX2_fullestLink vc2 (ct_X2_fullestLink N 3 (Nat.le_refl _) hS (le42 hS) hF16) rfl rfl (Nat.le_trans (by decide) hd) (sk42 hS) (sn42 hS) (Nat.le_of_ble_eq_true rfl) (fun _ => ?_)
                  exact wp_iret dX10_count_147 rfl (by obtain rfl := sji h; exact ⟨rfl, rfl, rfl, rfl⟩)
                · have h := ite_f hc14 h
                  by_cases hc17 : a2 = 8
                  · have h := ite_t hc17 h
                    refine wp_tableIn (off := 147) (tgt := 148) dX10_count_1 (by rw [hc17]; decide) (by rw [hc17]; decide) (by rw [hc17]; decide +kernel) (by decide) ?_
                    refine wp_aload_n dX10_count_148 rfl rfl ?_
                    refine wp_getR dX10_count_149 flX10_58 rfl (sk0 hS) (sn0 hS) (sr0_12 hS) ?_
                    refine wp_aload_n dX10_count_152 rfl rfl ?_
                    refine wp_getR dX10_count_153 flX10_58 rfl (sk0 hS) (sn0 hS) (sr0_12 hS) ?_
                    obtain ⟨r18, hF19, h⟩ := obi h
                    refine wp_callVNi (ci := 2) (As := []) dX10_count_156 lbX2_fullestLink mnX10_154 imX2_fullestLink seX2_fullestLink vc2 (ct_X2_fullestLink N 3 (Nat.le_refl _) hS (le42 hS) hF19) rfl rfl (Nat.le_trans (by decide) hd) (sk42 hS) (sn42 hS) (Nat.le_of_ble_eq_true rfl) (fun _ => ?_)
                    obtain ⟨r20, hF21, h⟩ := obi h
                    refine wp_callVNi (ci := 2) (As := [.int r18]) dX10_count_159 lbX2_percentOf mnX10_157 imX2_percentOf seX2_percentOf vc2 (ct_X2_percentOf N 2 (Nat.le_refl _) hS (le42 hS) hF21) rfl rfl (Nat.le_trans (by decide) hd) (sk42 hS) (sn42 hS) (Nat.le_of_ble_eq_true rfl) (fun _ => ?_)
                    exact wp_iret dX10_count_162 rfl (by obtain rfl := sji h; exact ⟨rfl, rfl, rfl, rfl⟩)
                  · have h := ite_f hc17 h
                    by_cases hc22 : a2 = 9
                    · have h := ite_t hc22 h
                      refine wp_tableIn (off := 162) (tgt := 163) dX10_count_1 (by rw [hc22]; decide) (by rw [hc22]; decide) (by rw [hc22]; decide +kernel) (by decide) ?_
                      refine wp_aload_n dX10_count_163 rfl rfl ?_
                      obtain ⟨⟨r23, I24⟩, hF25, h⟩ := obi h
                      refine wp_callVi (ci := 10) (As := []) dX10_count_164 lbX10_worstLink mlX10_161 imX10_worstLink seX10_worstLink vc10 (ct_X10_worstLink N 6 (Nat.le_refl _) hS  hF25) rfl rfl (Nat.le_trans (by decide) hd) (sk0 hS) (sn0 hS) (Nat.le_of_ble_eq_true rfl) (fun _ => ?_)
                      exact wp_iret dX10_count_167 rfl (by obtain rfl := sji h; exact ⟨rfl, rfl, rfl, rfl⟩)
                    · have h := ite_f hc22 h
                      by_cases hc26 : a2 = 10
                      · have h := ite_t hc26 h
                        refine wp_tableIn (off := 167) (tgt := 168) dX10_count_1 (by rw [hc26]; decide) (by rw [hc26]; decide) (by rw [hc26]; decide +kernel) (by decide) ?_
                        refine wp_aload_n dX10_count_168 rfl rfl ?_
                        refine wp_aload_n dX10_count_169 rfl rfl ?_
                        obtain ⟨⟨r27, I28⟩, hF29, h⟩ := obi h
                        refine wp_callVi (ci := 10) (As := []) dX10_count_170 lbX10_worstLink mlX10_161 imX10_worstLink seX10_worstLink vc10 (ct_X10_worstLink N 6 (Nat.le_refl _) hS  hF29) rfl rfl (Nat.le_trans (by decide) hd) (sk0 hS) (sn0 hS) (Nat.le_of_ble_eq_true rfl) (fun _ => ?_)
                        obtain ⟨⟨r30, I31⟩, hF32, h⟩ := obi h
                        refine wp_callVi (ci := 10) (As := [.int r27]) dX10_count_173 lbX10_lostBy mlX10_164 imX10_lostBy seX10_lostBy vc10 (ct_X10_lostBy N 5 (Nat.le_refl _) hS  hF32) rfl rfl (Nat.le_trans (by decide) hd) (sk0 hS) (sn0 hS) (Nat.le_of_ble_eq_true rfl) (fun _ => ?_)
                        exact wp_iret dX10_count_176 rfl (by obtain rfl := sji h; exact ⟨rfl, rfl, rfl, rfl⟩)
                      · have h := ite_f hc26 h
                        by_cases hc33 : a2 = 11
                        · have h := ite_t hc33 h
                          refine wp_tableIn (off := 176) (tgt := 177) dX10_count_1 (by rw [hc33]; decide) (by rw [hc33]; decide) (by rw [hc33]; decide +kernel) (by decide) ?_
                          refine wp_aload_n dX10_count_177 rfl rfl ?_
                          refine wp_getR dX10_count_178 flX10_74 rfl (sk0 hS) (sn0 hS) (sr0_14 hS) ?_
                          refine wp_getI dX10_count_181 flX10_167 rfl (sk51 hS) (sn51 hS) ?_
                          exact wp_iret dX10_count_184 rfl (by obtain rfl := sji h; exact ⟨rfl, rfl, rfl, rfl⟩)
                        · have h := ite_f hc33 h
                          by_cases hc34 : a2 = 12
                          · have h := ite_t hc34 h
                            refine wp_tableIn (off := 184) (tgt := 185) dX10_count_1 (by rw [hc34]; decide) (by rw [hc34]; decide) (by rw [hc34]; decide +kernel) (by decide) ?_
                            refine wp_aload_n dX10_count_185 rfl rfl ?_
                            refine wp_getR dX10_count_186 flX10_81 rfl (sk0 hS) (sn0 hS) (sr0_15 hS) ?_
                            refine wp_getI dX10_count_189 flX10_170 rfl (sk173 hS) (sn173 hS) ?_
                            exact wp_iret dX10_count_192 rfl (by obtain rfl := sji h; exact ⟨rfl, rfl, rfl, rfl⟩)
                          · have h := ite_f hc34 h
                            by_cases hc35 : a2 = 13
                            · have h := ite_t hc35 h
                              refine wp_tableIn (off := 192) (tgt := 193) dX10_count_1 (by rw [hc35]; decide) (by rw [hc35]; decide) (by rw [hc35]; decide +kernel) (by decide) ?_
                              refine wp_aload_n dX10_count_193 rfl rfl ?_
                              refine wp_getI dX10_count_194 flX10_94 rfl (sk0 hS) (sn0 hS) ?_
                              exact wp_iret dX10_count_197 rfl (by obtain rfl := sji h; exact ⟨rfl, rfl, rfl, rfl⟩)
                            · have h := ite_f hc35 h
                              by_cases hc36 : a2 = 14
                              · have h := ite_t hc36 h
                                refine wp_tableIn (off := 197) (tgt := 198) dX10_count_1 (by rw [hc36]; decide) (by rw [hc36]; decide) (by rw [hc36]; decide +kernel) (by decide) ?_
                                refine wp_aload_n dX10_count_198 rfl rfl ?_
                                refine wp_getI dX10_count_199 flX10_115 rfl (sk0 hS) (sn0 hS) ?_
                                exact wp_iret dX10_count_202 rfl (by obtain rfl := sji h; exact ⟨rfl, rfl, rfl, rfl⟩)
                              · have h := ite_f hc36 h
                                by_cases hc37 : a2 = 15
                                · have h := ite_t hc37 h
                                  refine wp_tableIn (off := 202) (tgt := 203) dX10_count_1 (by rw [hc37]; decide) (by rw [hc37]; decide) (by rw [hc37]; decide +kernel) (by decide) ?_
                                  refine wp_aload_n dX10_count_203 rfl rfl ?_
                                  refine wp_getI dX10_count_204 flX10_171 rfl (sk0 hS) (sn0 hS) ?_
                                  exact wp_iret dX10_count_207 rfl (by obtain rfl := sji h; exact ⟨rfl, rfl, rfl, rfl⟩)
                                · have h := ite_f hc37 h
                                  by_cases hc38 : a2 = 16
                                  · have h := ite_t hc38 h
                                    refine wp_tableIn (off := 207) (tgt := 208) dX10_count_1 (by rw [hc38]; decide) (by rw [hc38]; decide) (by rw [hc38]; decide +kernel) (by decide) ?_
                                    refine wp_aload_n dX10_count_208 rfl rfl ?_
                                    refine wp_getI dX10_count_209 flX10_174 rfl (sk0 hS) (sn0 hS) ?_
                                    exact wp_iret dX10_count_212 rfl (by obtain rfl := sji h; exact ⟨rfl, rfl, rfl, rfl⟩)
                                  · have h := ite_f hc38 h
                                    have hs39 : a2.toInt < 0 ∨ 16 < a2.toInt := by
                                      by_cases q9 : a2.toInt < 0 ∨ 16 < a2.toInt
                                      · exact q9
                                      · exfalso
                                        rcases (show a2.toInt = 0 ∨ a2.toInt = 1 ∨ a2.toInt = 2 ∨ a2.toInt = 3 ∨ a2.toInt = 4 ∨ a2.toInt = 5 ∨ a2.toInt = 6 ∨ a2.toInt = 7 ∨ a2.toInt = 8 ∨ a2.toInt = 9 ∨ a2.toInt = 10 ∨ a2.toInt = 11 ∨ a2.toInt = 12 ∨ a2.toInt = 13 ∨ a2.toInt = 14 ∨ a2.toInt = 15 ∨ a2.toInt = 16 by omega) with q8 | q8 | q8 | q8 | q8 | q8 | q8 | q8 | q8 | q8 | q8 | q8 | q8 | q8 | q8 | q8 | q8
                                        · exact hc1 (i32e q8)
                                        · exact hc2 (i32e q8)
                                        · exact hc3 (i32e q8)
                                        · exact hc4 (i32e q8)
                                        · exact hc7 (i32e q8)
                                        · exact hc8 (i32e q8)
                                        · exact hc11 (i32e q8)
                                        · exact hc14 (i32e q8)
                                        · exact hc17 (i32e q8)
                                        · exact hc22 (i32e q8)
                                        · exact hc26 (i32e q8)
                                        · exact hc33 (i32e q8)
                                        · exact hc34 (i32e q8)
                                        · exact hc35 (i32e q8)
                                        · exact hc36 (i32e q8)
                                        · exact hc37 (i32e q8)
                                        · exact hc38 (i32e q8)
                                    refine wp_tableOut (tgt := 213) dX10_count_1 hs39 (by decide) ?_
                                    exact wp_throwSN (i := 4) dX10_count_213 dX10_count_216 dX10_count_217 dX10_count_219 dX10_count_222 rfl clX10_177 rfl (Nat.le_trans (by decide) hd) (by obtain rfl := sji h; exact ⟨rfl, rfl, rfl, rfl⟩)
def mX10_checkLink (a2 : Int32) (I : gI) : Option ((Unit ⊕ String)) := if a2 < 0 then (some (.inr "java/util/NoSuchElementException")) else (if a2 < (I 2 1) then (some (.inl ())) else (some (.inr "java/util/NoSuchElementException")))
set_option maxHeartbeats 4000000 in
set_option maxRecDepth 100000 in
theorem ct_X10_checkLink (d : Nat) (hd : 9 ≤ d) {S : gS} {J : gJ} (hS : Sh S)  {a2 : Int32} {I : gI} {r : (Unit ⊕ String)} (h : mX10_checkLink a2 I = some r) : Ct yX10_checkLink (wsY yX10_checkLink cX10_checkLink 2 none) d 1 6 [.ref 0, .int a2] S I J (qE (oV r) S I J) := by
  refine Ct.of hF (fun _ _ _ _ _ => trivial) (by decide +kernel) (Nat.le_of_ble_eq_true rfl) ⟨Or.inl (sn0 hS), trivial, trivial⟩ ?_
  show Wp RX10 cX10_checkLink 2 none [] hF d 1 6 0 [(0, .ref 0), (1, .int a2)] [] S I J _
  unfold mX10_checkLink at h
  refine wp_iload_n dX10_checkLink_0 rfl rfl ?_
  refine wp_if_lt (tgt := 15) dX10_checkLink_1 (by decide) (fun hc1 => ?_) (fun hc1 => ?_)
  · have h := ite_t hc1 h
    exact wp_throwSN (i := 5) dX10_checkLink_15 dX10_checkLink_18 dX10_checkLink_19 dX10_checkLink_21 dX10_checkLink_24 rfl clX10_177 rfl (Nat.le_trans (by decide) hd) (by obtain rfl := sji h; exact ⟨rfl, rfl, rfl, rfl⟩)
  · have h := ite_f hc1 h
    refine wp_iload_n dX10_checkLink_4 rfl rfl ?_
    refine wp_aload_n dX10_checkLink_5 rfl rfl ?_
    refine wp_getR dX10_checkLink_6 flX10_20 rfl (sk0 hS) (sn0 hS) (sr0_6 hS) ?_
    refine wp_getI dX10_checkLink_9 flX10_135 rfl (sk2 hS) (sn2 hS) ?_
    refine wp_icmp_lt (tgt := 25) dX10_checkLink_12 (by decide) (fun hc2 => ?_) (fun hc2 => ?_)
    · have h := ite_t hc2 h
      exact wp_vret dX10_checkLink_25 rfl (by obtain rfl := sji h; exact ⟨rfl, rfl, rfl, rfl⟩)
    · have h := ite_f hc2 h
      exact wp_throwSN (i := 5) dX10_checkLink_15 dX10_checkLink_18 dX10_checkLink_19 dX10_checkLink_21 dX10_checkLink_24 rfl clX10_177 rfl (Nat.le_trans (by decide) hd) (by obtain rfl := sji h; exact ⟨rfl, rfl, rfl, rfl⟩)
def mX10_checkTunnel (a2 : Int32) (I : gI) : Option ((Unit ⊕ String)) := if a2 < 0 then (some (.inr "java/util/NoSuchElementException")) else (if a2 < (I 2 2) then (some (.inl ())) else (some (.inr "java/util/NoSuchElementException")))
set_option maxHeartbeats 4000000 in
set_option maxRecDepth 100000 in
theorem ct_X10_checkTunnel (d : Nat) (hd : 9 ≤ d) {S : gS} {J : gJ} (hS : Sh S)  {a2 : Int32} {I : gI} {r : (Unit ⊕ String)} (h : mX10_checkTunnel a2 I = some r) : Ct yX10_checkTunnel (wsY yX10_checkTunnel cX10_checkTunnel 2 none) d 1 6 [.ref 0, .int a2] S I J (qE (oV r) S I J) := by
  refine Ct.of hF (fun _ _ _ _ _ => trivial) (by decide +kernel) (Nat.le_of_ble_eq_true rfl) ⟨Or.inl (sn0 hS), trivial, trivial⟩ ?_
  show Wp RX10 cX10_checkTunnel 2 none [] hF d 1 6 0 [(0, .ref 0), (1, .int a2)] [] S I J _
  unfold mX10_checkTunnel at h
  refine wp_iload_n dX10_checkTunnel_0 rfl rfl ?_
  refine wp_if_lt (tgt := 15) dX10_checkTunnel_1 (by decide) (fun hc1 => ?_) (fun hc1 => ?_)
  · have h := ite_t hc1 h
    exact wp_throwSN (i := 6) dX10_checkTunnel_15 dX10_checkTunnel_18 dX10_checkTunnel_19 dX10_checkTunnel_21 dX10_checkTunnel_24 rfl clX10_177 rfl (Nat.le_trans (by decide) hd) (by obtain rfl := sji h; exact ⟨rfl, rfl, rfl, rfl⟩)
  · have h := ite_f hc1 h
    refine wp_iload_n dX10_checkTunnel_4 rfl rfl ?_
    refine wp_aload_n dX10_checkTunnel_5 rfl rfl ?_
    refine wp_getR dX10_checkTunnel_6 flX10_20 rfl (sk0 hS) (sn0 hS) (sr0_6 hS) ?_
    refine wp_getI dX10_checkTunnel_9 flX10_138 rfl (sk2 hS) (sn2 hS) ?_
    refine wp_icmp_lt (tgt := 25) dX10_checkTunnel_12 (by decide) (fun hc2 => ?_) (fun hc2 => ?_)
    · have h := ite_t hc2 h
      exact wp_vret dX10_checkTunnel_25 rfl (by obtain rfl := sji h; exact ⟨rfl, rfl, rfl, rfl⟩)
    · have h := ite_f hc2 h
      exact wp_throwSN (i := 6) dX10_checkTunnel_15 dX10_checkTunnel_18 dX10_checkTunnel_19 dX10_checkTunnel_21 dX10_checkTunnel_24 rfl clX10_177 rfl (Nat.le_trans (by decide) hd) (by obtain rfl := sji h; exact ⟨rfl, rfl, rfl, rfl⟩)
def mX10_checkNodes (a2 : Int32) (a3 : Int32) (I : gI) : Option ((Unit ⊕ String)) := if a2 < 0 then (some (.inr "java/util/NoSuchElementException")) else (if (I 2 0) ≤ a2 then (some (.inr "java/util/NoSuchElementException")) else (if a3 < 0 then (some (.inr "java/util/NoSuchElementException")) else (if a3 < (I 2 0) then (some (.inl ())) else (some (.inr "java/util/NoSuchElementException")))))
set_option maxHeartbeats 4000000 in
set_option maxRecDepth 100000 in
theorem ct_X10_checkNodes (d : Nat) (hd : 9 ≤ d) {S : gS} {J : gJ} (hS : Sh S)  {a2 : Int32} {a3 : Int32} {I : gI} {r : (Unit ⊕ String)} (h : mX10_checkNodes a2 a3 I = some r) : Ct yX10_checkNodes (wsY yX10_checkNodes cX10_checkNodes 3 none) d 1 6 [.ref 0, .int a2, .int a3] S I J (qE (oV r) S I J) := by
  refine Ct.of hF (fun _ _ _ _ _ => trivial) (by decide +kernel) (Nat.le_of_ble_eq_true rfl) ⟨Or.inl (sn0 hS), trivial, trivial, trivial⟩ ?_
  show Wp RX10 cX10_checkNodes 3 none [] hF d 1 6 0 [(0, .ref 0), (1, .int a2), (2, .int a3)] [] S I J _
  unfold mX10_checkNodes at h
  refine wp_iload_n dX10_checkNodes_0 rfl rfl ?_
  refine wp_if_lt (tgt := 30) dX10_checkNodes_1 (by decide) (fun hc1 => ?_) (fun hc1 => ?_)
  · have h := ite_t hc1 h
    exact wp_throwSN (i := 7) dX10_checkNodes_30 dX10_checkNodes_33 dX10_checkNodes_34 dX10_checkNodes_36 dX10_checkNodes_39 rfl clX10_177 rfl (Nat.le_trans (by decide) hd) (by obtain rfl := sji h; exact ⟨rfl, rfl, rfl, rfl⟩)
  · have h := ite_f hc1 h
    refine wp_iload_n dX10_checkNodes_4 rfl rfl ?_
    refine wp_aload_n dX10_checkNodes_5 rfl rfl ?_
    refine wp_getR dX10_checkNodes_6 flX10_20 rfl (sk0 hS) (sn0 hS) (sr0_6 hS) ?_
    refine wp_getI dX10_checkNodes_9 flX10_132 rfl (sk2 hS) (sn2 hS) ?_
    refine wp_icmp_ge (tgt := 30) dX10_checkNodes_12 (by decide) (fun hc2 => ?_) (fun hc2 => ?_)
    · have h := ite_t hc2 h
      exact wp_throwSN (i := 7) dX10_checkNodes_30 dX10_checkNodes_33 dX10_checkNodes_34 dX10_checkNodes_36 dX10_checkNodes_39 rfl clX10_177 rfl (Nat.le_trans (by decide) hd) (by obtain rfl := sji h; exact ⟨rfl, rfl, rfl, rfl⟩)
    · have h := ite_f hc2 h
      refine wp_iload_n dX10_checkNodes_15 rfl rfl ?_
      refine wp_if_lt (tgt := 30) dX10_checkNodes_16 (by decide) (fun hc3 => ?_) (fun hc3 => ?_)
      · have h := ite_t hc3 h
        exact wp_throwSN (i := 7) dX10_checkNodes_30 dX10_checkNodes_33 dX10_checkNodes_34 dX10_checkNodes_36 dX10_checkNodes_39 rfl clX10_177 rfl (Nat.le_trans (by decide) hd) (by obtain rfl := sji h; exact ⟨rfl, rfl, rfl, rfl⟩)
      · have h := ite_f hc3 h
        refine wp_iload_n dX10_checkNodes_19 rfl rfl ?_
        refine wp_aload_n dX10_checkNodes_20 rfl rfl ?_
        refine wp_getR dX10_checkNodes_21 flX10_20 rfl (sk0 hS) (sn0 hS) (sr0_6 hS) ?_
        refine wp_getI dX10_checkNodes_24 flX10_132 rfl (sk2 hS) (sn2 hS) ?_
        refine wp_icmp_lt (tgt := 40) dX10_checkNodes_27 (by decide) (fun hc4 => ?_) (fun hc4 => ?_)
        · have h := ite_t hc4 h
          exact wp_vret dX10_checkNodes_40 rfl (by obtain rfl := sji h; exact ⟨rfl, rfl, rfl, rfl⟩)
        · have h := ite_f hc4 h
          exact wp_throwSN (i := 7) dX10_checkNodes_30 dX10_checkNodes_33 dX10_checkNodes_34 dX10_checkNodes_36 dX10_checkNodes_39 rfl clX10_177 rfl (Nat.le_trans (by decide) hd) (by obtain rfl := sji h; exact ⟨rfl, rfl, rfl, rfl⟩)
def mX10_checkUnlike (a1 : Int32) (a2 : Int32) (I : gI) : Option ((Unit ⊕ String)) := if a1 = a2 then (some (.inr "java/lang/IllegalArgumentException")) else (some (.inl ()))
set_option maxHeartbeats 4000000 in
set_option maxRecDepth 100000 in
theorem ct_X10_checkUnlike (d : Nat) (hd : 9 ≤ d) {S : gS} {J : gJ} (hS : Sh S)  {a1 : Int32} {a2 : Int32} {I : gI} {r : (Unit ⊕ String)} (h : mX10_checkUnlike a1 a2 I = some r) : Ct yX10_checkUnlike (wsY yX10_checkUnlike cX10_checkUnlike 2 none) d 1 6 [.int a1, .int a2] S I J (qE (oV r) S I J) := by
  refine Ct.of hF (fun _ _ _ _ _ => trivial) (by decide +kernel) (Nat.le_of_ble_eq_true rfl) ⟨trivial, trivial, trivial⟩ ?_
  show Wp RX10 cX10_checkUnlike 2 none [] hF d 1 6 0 [(0, .int a1), (1, .int a2)] [] S I J _
  unfold mX10_checkUnlike at h
  refine wp_iload_n dX10_checkUnlike_0 rfl rfl ?_
  refine wp_iload_n dX10_checkUnlike_1 rfl rfl ?_
  refine wp_icmp_ne (tgt := 15) dX10_checkUnlike_2 (by decide) (fun hc1 => ?_) (fun hc1 => ?_)
  · have h := ite_f hc1 h
    exact wp_vret dX10_checkUnlike_15 rfl (by obtain rfl := sji h; exact ⟨rfl, rfl, rfl, rfl⟩)
  · have h := ite_t hc1 h
    exact wp_throwSA (i := 8) dX10_checkUnlike_5 dX10_checkUnlike_8 dX10_checkUnlike_9 dX10_checkUnlike_11 dX10_checkUnlike_14 rfl clX10_101 rfl (Nat.le_trans (by decide) hd) (by obtain rfl := sji h; exact ⟨rfl, rfl, rfl, rfl⟩)
def mX10_checkPriority (a1 : Int32) (I : gI) : Option ((Unit ⊕ String)) := Option.bind (mX10_isPriority a1 I) (fun r1 => if r1 = 0 then (some (.inr "java/lang/IllegalArgumentException")) else (some (.inl ())))
set_option maxHeartbeats 4000000 in
set_option maxRecDepth 100000 in
theorem ct_X10_checkPriority (d : Nat) (hd : 9 ≤ d) {S : gS} {J : gJ} (hS : Sh S)  {a1 : Int32} {I : gI} {r : (Unit ⊕ String)} (h : mX10_checkPriority a1 I = some r) : Ct yX10_checkPriority (wsY yX10_checkPriority cX10_checkPriority 1 none) d 1 6 [.int a1] S I J (qE (oV r) S I J) := by
  refine Ct.of hF (fun _ _ _ _ _ => trivial) (by decide +kernel) (Nat.le_of_ble_eq_true rfl) ⟨trivial, trivial⟩ ?_
  show Wp RX10 cX10_checkPriority 1 none [] hF d 1 6 0 [(0, .int a1)] [] S I J _
  unfold mX10_checkPriority at h
  refine wp_iload_n dX10_checkPriority_0 rfl rfl ?_
  obtain ⟨r1, hF2, h⟩ := obi h
  refine wp_callSi (As := [.int a1]) dX10_checkPriority_1 lbX10_isPriority mlX10_207 smX10_isPriority (ct_X10_isPriority 0 (Nat.le_refl _) hS  hF2) rfl rfl (Nat.le_trans (by decide) hd) (Nat.le_of_ble_eq_true rfl) (fun _ => ?_)
  refine wp_if_ne (tgt := 17) dX10_checkPriority_4 (by decide) (fun hc3 => ?_) (fun hc3 => ?_)
  · have h := ite_f hc3 h
    exact wp_vret dX10_checkPriority_17 rfl (by obtain rfl := sji h; exact ⟨rfl, rfl, rfl, rfl⟩)
  · have h := ite_t hc3 h
    exact wp_throwSA (i := 9) dX10_checkPriority_7 dX10_checkPriority_10 dX10_checkPriority_11 dX10_checkPriority_13 dX10_checkPriority_16 rfl clX10_101 rfl (Nat.le_trans (by decide) hd) (by obtain rfl := sji h; exact ⟨rfl, rfl, rfl, rfl⟩)
def mX10_checkPlace (a1 : Int32) (I : gI) : Option ((Unit ⊕ String)) := if 0 ≤ a1 then (some (.inl ())) else (some (.inr "java/util/NoSuchElementException"))
set_option maxHeartbeats 4000000 in
set_option maxRecDepth 100000 in
theorem ct_X10_checkPlace (d : Nat) (hd : 9 ≤ d) {S : gS} {J : gJ} (hS : Sh S)  {a1 : Int32} {I : gI} {r : (Unit ⊕ String)} (h : mX10_checkPlace a1 I = some r) : Ct yX10_checkPlace (wsY yX10_checkPlace cX10_checkPlace 1 none) d 1 6 [.int a1] S I J (qE (oV r) S I J) := by
  refine Ct.of hF (fun _ _ _ _ _ => trivial) (by decide +kernel) (Nat.le_of_ble_eq_true rfl) ⟨trivial, trivial⟩ ?_
  show Wp RX10 cX10_checkPlace 1 none [] hF d 1 6 0 [(0, .int a1)] [] S I J _
  unfold mX10_checkPlace at h
  refine wp_iload_n dX10_checkPlace_0 rfl rfl ?_
  refine wp_if_ge (tgt := 14) dX10_checkPlace_1 (by decide) (fun hc1 => ?_) (fun hc1 => ?_)
  · have h := ite_t hc1 h
    exact wp_vret dX10_checkPlace_14 rfl (by obtain rfl := sji h; exact ⟨rfl, rfl, rfl, rfl⟩)
  · have h := ite_f hc1 h
    exact wp_throwSN (i := 10) dX10_checkPlace_4 dX10_checkPlace_7 dX10_checkPlace_8 dX10_checkPlace_10 dX10_checkPlace_13 rfl clX10_177 rfl (Nat.le_trans (by decide) hd) (by obtain rfl := sji h; exact ⟨rfl, rfl, rfl, rfl⟩)
def mX10_link (N : Nat) (a2 : Int32) (a3 : Int32) (I : gI) : Option ((Int32 ⊕ String)) := lbind (mX10_checkLink a2 I) (fun _ => if a3 = 0 then (ck a2 16 (some (.inl (I 3 a2.toNatClampNeg)))) else (if a3 = 1 then (ck a2 16 (some (.inl (I 4 a2.toNatClampNeg)))) else (if a3 = 2 then (ck a2 16 (some (.inl (I 5 a2.toNatClampNeg)))) else (if a3 = 3 then (ck a2 16 (some (.inl (I 6 a2.toNatClampNeg)))) else (if a3 = 4 then (ck a2 16 (some (.inl (I 7 a2.toNatClampNeg)))) else (if a3 = 5 then (some (.inl ((ushr (I 36 2) a2) &&& 1))) else (if a3 = 6 then (Option.bind (mX2_taken N 36 a2 I) (fun r15 => some (.inl r15))) else (if a3 = 7 then (Option.bind (mX2_tunnelsOn N 36 a2 I) (fun r18 => some (.inl r18))) else (some (.inr "java/util/NoSuchElementException")))))))))) (fun E21 => some (.inr E21))
set_option maxHeartbeats 4000000 in
set_option maxRecDepth 100000 in
theorem ct_X10_link (N : Nat) (d : Nat) (hd : 10 ≤ d) {S : gS} {J : gJ} (hS : Sh S)  {a2 : Int32} {a3 : Int32} {I : gI} {r : (Int32 ⊕ String)} (h : mX10_link N a2 a3 I = some r) : Ct yX10_link (wsY yX10_link cX10_link 3 (some .int)) d 2 12 [.ref 0, .int a2, .int a3] S I J (qE (oI r) S I J) := by
  refine Ct.of hF (fun _ _ _ _ _ => trivial) (by decide +kernel) (Nat.le_of_ble_eq_true rfl) ⟨Or.inl (sn0 hS), trivial, trivial, trivial⟩ ?_
  show Wp RX10 cX10_link 3 (some .int) [] hF d 2 12 0 [(0, .ref 0), (1, .int a2), (2, .int a3)] [] S I J _
  unfold mX10_link at h
  refine wp_aload_n dX10_link_0 rfl rfl ?_
  refine wp_iload_n dX10_link_1 rfl rfl ?_
  rcases lbi h with ⟨⟨⟩, hF2, h⟩ | ⟨E21, hF2, h⟩
  · refine wp_callVv (ci := 10) (As := [.int a2]) dX10_link_2 lbX10_checkLink mlX10_215 imX10_checkLink seX10_checkLink vc10 (ct_X10_checkLink 9 (Nat.le_refl _) hS  hF2) rfl rfl (Nat.le_trans (by decide) hd) (sk0 hS) (sn0 hS) (Nat.le_of_ble_eq_true rfl) (fun _ => ?_)
    refine wp_iload_n dX10_link_5 rfl rfl ?_
    by_cases hc3 : a3 = 0
    · have h := ite_t hc3 h
      refine wp_tableIn (off := 46) (tgt := 52) dX10_link_6 (by rw [hc3]; decide) (by rw [hc3]; decide) (by rw [hc3]; decide +kernel) (by decide) ?_
      refine wp_aload_n dX10_link_52 rfl rfl ?_
      refine wp_getR dX10_link_53 flX10_20 rfl (sk0 hS) (sn0 hS) (sr0_6 hS) ?_
      refine wp_getR dX10_link_56 flX10_218 rfl (sk2 hS) (sn2 hS) (sr2_3 hS) ?_
      refine wp_iload_n dX10_link_59 rfl rfl ?_
      obtain ⟨hb4, h⟩ := ck_inv h
      refine wp_iald dX10_link_60 (sk3 hS) (sn3 hS) hb4 ?_
      exact wp_iret dX10_link_61 rfl (by obtain rfl := sji h; exact ⟨rfl, rfl, rfl, rfl⟩)
    · have h := ite_f hc3 h
      by_cases hc5 : a3 = 1
      · have h := ite_t hc5 h
        refine wp_tableIn (off := 56) (tgt := 62) dX10_link_6 (by rw [hc5]; decide) (by rw [hc5]; decide) (by rw [hc5]; decide +kernel) (by decide) ?_
        refine wp_aload_n dX10_link_62 rfl rfl ?_
        refine wp_getR dX10_link_63 flX10_20 rfl (sk0 hS) (sn0 hS) (sr0_6 hS) ?_
        refine wp_getR dX10_link_66 flX10_222 rfl (sk2 hS) (sn2 hS) (sr2_4 hS) ?_
        refine wp_iload_n dX10_link_69 rfl rfl ?_
        obtain ⟨hb6, h⟩ := ck_inv h
        refine wp_iald dX10_link_70 (sk4 hS) (sn4 hS) hb6 ?_
        exact wp_iret dX10_link_71 rfl (by obtain rfl := sji h; exact ⟨rfl, rfl, rfl, rfl⟩)
      · have h := ite_f hc5 h
        by_cases hc7 : a3 = 2
        · have h := ite_t hc7 h
          refine wp_tableIn (off := 66) (tgt := 72) dX10_link_6 (by rw [hc7]; decide) (by rw [hc7]; decide) (by rw [hc7]; decide +kernel) (by decide) ?_
          refine wp_aload_n dX10_link_72 rfl rfl ?_
          refine wp_getR dX10_link_73 flX10_20 rfl (sk0 hS) (sn0 hS) (sr0_6 hS) ?_
          refine wp_getR dX10_link_76 flX10_225 rfl (sk2 hS) (sn2 hS) (sr2_5 hS) ?_
          refine wp_iload_n dX10_link_79 rfl rfl ?_
          obtain ⟨hb8, h⟩ := ck_inv h
          refine wp_iald dX10_link_80 (sk5 hS) (sn5 hS) hb8 ?_
          exact wp_iret dX10_link_81 rfl (by obtain rfl := sji h; exact ⟨rfl, rfl, rfl, rfl⟩)
        · have h := ite_f hc7 h
          by_cases hc9 : a3 = 3
          · have h := ite_t hc9 h
            refine wp_tableIn (off := 76) (tgt := 82) dX10_link_6 (by rw [hc9]; decide) (by rw [hc9]; decide) (by rw [hc9]; decide +kernel) (by decide) ?_
            refine wp_aload_n dX10_link_82 rfl rfl ?_
            refine wp_getR dX10_link_83 flX10_20 rfl (sk0 hS) (sn0 hS) (sr0_6 hS) ?_
            refine wp_getR dX10_link_86 flX10_228 rfl (sk2 hS) (sn2 hS) (sr2_6 hS) ?_
            refine wp_iload_n dX10_link_89 rfl rfl ?_
            obtain ⟨hb10, h⟩ := ck_inv h
            refine wp_iald dX10_link_90 (sk6 hS) (sn6 hS) hb10 ?_
            exact wp_iret dX10_link_91 rfl (by obtain rfl := sji h; exact ⟨rfl, rfl, rfl, rfl⟩)
          · have h := ite_f hc9 h
            by_cases hc11 : a3 = 4
            · have h := ite_t hc11 h
              refine wp_tableIn (off := 86) (tgt := 92) dX10_link_6 (by rw [hc11]; decide) (by rw [hc11]; decide) (by rw [hc11]; decide +kernel) (by decide) ?_
              refine wp_aload_n dX10_link_92 rfl rfl ?_
              refine wp_getR dX10_link_93 flX10_20 rfl (sk0 hS) (sn0 hS) (sr0_6 hS) ?_
              refine wp_getR dX10_link_96 flX10_231 rfl (sk2 hS) (sn2 hS) (sr2_7 hS) ?_
              refine wp_iload_n dX10_link_99 rfl rfl ?_
              obtain ⟨hb12, h⟩ := ck_inv h
              refine wp_iald dX10_link_100 (sk7 hS) (sn7 hS) hb12 ?_
              exact wp_iret dX10_link_101 rfl (by obtain rfl := sji h; exact ⟨rfl, rfl, rfl, rfl⟩)
            · have h := ite_f hc11 h
              by_cases hc13 : a3 = 5
              · have h := ite_t hc13 h
                refine wp_tableIn (off := 96) (tgt := 102) dX10_link_6 (by rw [hc13]; decide) (by rw [hc13]; decide) (by rw [hc13]; decide +kernel) (by decide) ?_
                refine wp_aload_n dX10_link_102 rfl rfl ?_
                refine wp_getR dX10_link_103 flX10_46 rfl (sk0 hS) (sn0 hS) (sr0_10 hS) ?_
                refine wp_getI dX10_link_106 flX10_145 rfl (sk36 hS) (sn36 hS) ?_
                refine wp_iload_n dX10_link_109 rfl rfl ?_
                refine wp_iushr dX10_link_110 ?_
                refine wp_iconst (v := 1) dX10_link_111 (by decide) ?_
                refine wp_iand dX10_link_112 ?_
                exact wp_iret dX10_link_113 rfl (by obtain rfl := sji h; exact ⟨rfl, rfl, rfl, rfl⟩)
              · have h := ite_f hc13 h
                by_cases hc14 : a3 = 6
                · have h := ite_t hc14 h
                  refine wp_tableIn (off := 108) (tgt := 114) dX10_link_6 (by rw [hc14]; decide) (by rw [hc14]; decide) (by rw [hc14]; decide +kernel) (by decide) ?_
                  refine wp_aload_n dX10_link_114 rfl rfl ?_
                  refine wp_getR dX10_link_115 flX10_58 rfl (sk0 hS) (sn0 hS) (sr0_12 hS) ?_
                  refine wp_iload_n dX10_link_118 rfl rfl ?_
                  obtain ⟨r15, hF16, h⟩ := obi h
                  refine wp_callVNi (ci := 2) (As := [.int a2]) dX10_link_119 lbX2_taken mnX10_234 imX2_taken seX2_taken vc2 (ct_X2_taken N 1 (Nat.le_refl _) hS (le42 hS) hF16) rfl rfl (Nat.le_trans (by decide) hd) (sk42 hS) (sn42 hS) (Nat.le_of_ble_eq_true rfl) (fun _ => ?_)
                  exact wp_iret dX10_link_122 rfl (by obtain rfl := sji h; exact ⟨rfl, rfl, rfl, rfl⟩)
                · have h := ite_f hc14 h
                  by_cases hc17 : a3 = 7
                  · have h := ite_t hc17 h
                    refine wp_tableIn (off := 117) (tgt := 123) dX10_link_6 (by rw [hc17]; decide) (by rw [hc17]; decide) (by rw [hc17]; decide +kernel) (by decide) ?_
                    refine wp_aload_n dX10_link_123 rfl rfl ?_
                    refine wp_getR dX10_link_124 flX10_58 rfl (sk0 hS) (sn0 hS) (sr0_12 hS) ?_
                    refine wp_iload_n dX10_link_127 rfl rfl ?_
                    obtain ⟨r18, hF19, h⟩ := obi h
                    refine wp_callVNi (ci := 2) (As := [.int a2]) dX10_link_128 lbX2_tunnelsOn mnX10_182 imX2_tunnelsOn seX2_tunnelsOn vc2 (ct_X2_tunnelsOn N 0 (Nat.le_refl _) hS (le42 hS) hF19) rfl rfl (Nat.le_trans (by decide) hd) (sk42 hS) (sn42 hS) (Nat.le_of_ble_eq_true rfl) (fun _ => ?_)
                    exact wp_iret dX10_link_131 rfl (by obtain rfl := sji h; exact ⟨rfl, rfl, rfl, rfl⟩)
                  · have h := ite_f hc17 h
                    have hs20 : a3.toInt < 0 ∨ 7 < a3.toInt := by
                      by_cases q9 : a3.toInt < 0 ∨ 7 < a3.toInt
                      · exact q9
                      · exfalso
                        rcases (show a3.toInt = 0 ∨ a3.toInt = 1 ∨ a3.toInt = 2 ∨ a3.toInt = 3 ∨ a3.toInt = 4 ∨ a3.toInt = 5 ∨ a3.toInt = 6 ∨ a3.toInt = 7 by omega) with q8 | q8 | q8 | q8 | q8 | q8 | q8 | q8
                        · exact hc3 (i32e q8)
                        · exact hc5 (i32e q8)
                        · exact hc7 (i32e q8)
                        · exact hc9 (i32e q8)
                        · exact hc11 (i32e q8)
                        · exact hc13 (i32e q8)
                        · exact hc14 (i32e q8)
                        · exact hc17 (i32e q8)
                    refine wp_tableOut (tgt := 132) dX10_link_6 hs20 (by decide) ?_
                    exact wp_throwSN (i := 11) dX10_link_132 dX10_link_135 dX10_link_136 dX10_link_138 dX10_link_141 rfl clX10_177 rfl (Nat.le_trans (by decide) hd) (by obtain rfl := sji h; exact ⟨rfl, rfl, rfl, rfl⟩)
  · exact wp_callVx (ci := 10) (As := [.int a2]) dX10_link_2 lbX10_checkLink mlX10_215 imX10_checkLink seX10_checkLink vc10 (ct_X10_checkLink 9 (Nat.le_refl _) hS  hF2) rfl rfl (Nat.le_trans (by decide) hd) (sk0 hS) (sn0 hS) (Nat.le_of_ble_eq_true rfl) rfl (by obtain rfl := sji h; exact ⟨rfl, rfl, rfl, rfl⟩)
def mX10_pool (N : Nat) (a2 : Int32) (a3 : Int32) (I : gI) : Option ((Int32 ⊕ String)) := lbind (mX10_checkLink a2 I) (fun _ => lbind (mX10_checkPriority a3 I) (fun _ => Option.bind (mX2_poolWithout N 36 (-1) a2 a3 I) (fun r5 => some (.inl r5))) (fun E7 => some (.inr E7))) (fun E8 => some (.inr E8))
set_option maxHeartbeats 4000000 in
set_option maxRecDepth 100000 in
theorem ct_X10_pool (N : Nat) (d : Nat) (hd : 10 ≤ d) {S : gS} {J : gJ} (hS : Sh S)  {a2 : Int32} {a3 : Int32} {I : gI} {r : (Int32 ⊕ String)} (h : mX10_pool N a2 a3 I = some r) : Ct yX10_pool (wsY yX10_pool cX10_pool 3 (some .int)) d 2 12 [.ref 0, .int a2, .int a3] S I J (qE (oI r) S I J) := by
  refine Ct.of hF (fun _ _ _ _ _ => trivial) (by decide +kernel) (Nat.le_of_ble_eq_true rfl) ⟨Or.inl (sn0 hS), trivial, trivial, trivial⟩ ?_
  show Wp RX10 cX10_pool 3 (some .int) [] hF d 2 12 0 [(0, .ref 0), (1, .int a2), (2, .int a3)] [] S I J _
  unfold mX10_pool at h
  refine wp_aload_n dX10_pool_0 rfl rfl ?_
  refine wp_iload_n dX10_pool_1 rfl rfl ?_
  rcases lbi h with ⟨⟨⟩, hF2, h⟩ | ⟨E8, hF2, h⟩
  · refine wp_callVv (ci := 10) (As := [.int a2]) dX10_pool_2 lbX10_checkLink mlX10_215 imX10_checkLink seX10_checkLink vc10 (ct_X10_checkLink 9 (Nat.le_refl _) hS  hF2) rfl rfl (Nat.le_trans (by decide) hd) (sk0 hS) (sn0 hS) (Nat.le_of_ble_eq_true rfl) (fun _ => ?_)
    refine wp_iload_n dX10_pool_5 rfl rfl ?_
    rcases lbi h with ⟨⟨⟩, hF4, h⟩ | ⟨E7, hF4, h⟩
    · refine wp_callSv (As := [.int a3]) dX10_pool_6 lbX10_checkPriority mlX10_239 smX10_checkPriority (ct_X10_checkPriority 9 (Nat.le_refl _) hS  hF4) rfl rfl (Nat.le_trans (by decide) hd) (Nat.le_of_ble_eq_true rfl) (fun _ => ?_)
      refine wp_aload_n dX10_pool_9 rfl rfl ?_
      refine wp_getR dX10_pool_10 flX10_58 rfl (sk0 hS) (sn0 hS) (sr0_12 hS) ?_
      refine wp_iconst (v := (-1)) dX10_pool_13 (by decide) ?_
      refine wp_iload_n dX10_pool_14 rfl rfl ?_
      refine wp_iload_n dX10_pool_15 rfl rfl ?_
      obtain ⟨r5, hF6, h⟩ := obi h
      refine wp_callVNi (ci := 2) (As := [.int (-1), .int a2, .int a3]) dX10_pool_16 lbX2_poolWithout mnX10_242 imX2_poolWithout seX2_poolWithout vc2 (ct_X2_poolWithout N 0 (Nat.le_refl _) hS (le42 hS) hF6) rfl rfl (Nat.le_trans (by decide) hd) (sk42 hS) (sn42 hS) (Nat.le_of_ble_eq_true rfl) (fun _ => ?_)
      exact wp_iret dX10_pool_19 rfl (by obtain rfl := sji h; exact ⟨rfl, rfl, rfl, rfl⟩)
    · exact wp_callSx (As := [.int a3]) dX10_pool_6 lbX10_checkPriority mlX10_239 smX10_checkPriority (ct_X10_checkPriority 9 (Nat.le_refl _) hS  hF4) rfl rfl (Nat.le_trans (by decide) hd) (Nat.le_of_ble_eq_true rfl) rfl (by obtain rfl := sji h; exact ⟨rfl, rfl, rfl, rfl⟩)
  · exact wp_callVx (ci := 10) (As := [.int a2]) dX10_pool_2 lbX10_checkLink mlX10_215 imX10_checkLink seX10_checkLink vc10 (ct_X10_checkLink 9 (Nat.le_refl _) hS  hF2) rfl rfl (Nat.le_trans (by decide) hd) (sk0 hS) (sn0 hS) (Nat.le_of_ble_eq_true rfl) rfl (by obtain rfl := sji h; exact ⟨rfl, rfl, rfl, rfl⟩)
def mX10_tunnel (N : Nat) (a2 : Int32) (a3 : Int32) (I : gI) : Option ((Int32 ⊕ String) × gI) := lbind (mX10_checkTunnel a2 I) (fun _ => ck a2 9 (if a3 = 0 then (some (.inl (I 8 a2.toNatClampNeg), I)) else (if a3 = 1 then (some (.inl (I 9 a2.toNatClampNeg), I)) else (if a3 = 2 then (some (.inl (I 38 a2.toNatClampNeg), I)) else (if a3 = 3 then (some (.inl (I 11 a2.toNatClampNeg), I)) else (if a3 = 4 then (some (.inl (I 12 a2.toNatClampNeg), I)) else (if a3 = 5 then (some (.inl (I 13 a2.toNatClampNeg), I)) else (if a3 = 6 then (some (.inl (I 14 a2.toNatClampNeg), I)) else (if a3 = 7 then (if (I 37 a2.toNatClampNeg) = 0 then (some (.inl 0, I)) else (some (.inl 1, I))) else (if a3 = 8 then (if (I 37 a2.toNatClampNeg) = 0 then (some (.inl (-1), I)) else (Option.bind (mJ6_bitCount_0f7a4 (I 37 a2.toNatClampNeg) I) (fun r15 => some (.inl r15, I)))) else (if a3 = 9 then (if (I 37 a2.toNatClampNeg) = 0 then (some (.inl (-1), I)) else (Option.bind (mX4_metricOf N (I 37 a2.toNatClampNeg) I) (fun r19 => some (.inl r19, I)))) else (if a3 = 10 then (if (I 37 a2.toNatClampNeg) = 0 then (some (.inl (-1), I)) else (Option.bind (mX4_metricOf N (I 37 a2.toNatClampNeg) I) (fun r23 => Option.bind (mX2_leastMetric N 36 a2 I) (fun (r25, I26) => some (.inl (r23 - r25), I26))))) else (some (.inr "java/util/NoSuchElementException", I)))))))))))))) (fun E29 => some (.inr E29, I))
set_option maxHeartbeats 4000000 in
set_option maxRecDepth 100000 in
theorem ct_X10_tunnel (N : Nat) (d : Nat) (hd : 10 ≤ d) {S : gS} {J : gJ} (hS : Sh S)  {a2 : Int32} {a3 : Int32} {I : gI} {r : (Int32 ⊕ String) × gI} (h : mX10_tunnel N a2 a3 I = some r) : Ct yX10_tunnel (wsY yX10_tunnel cX10_tunnel 4 (some .int)) d 2 12 [.ref 0, .int a2, .int a3] S I J (qE (oI r.1) S r.2 J) := by
  refine Ct.of hF (fun _ _ _ _ _ => trivial) (by decide +kernel) (Nat.le_of_ble_eq_true rfl) ⟨Or.inl (sn0 hS), trivial, trivial, trivial⟩ ?_
  show Wp RX10 cX10_tunnel 4 (some .int) [] hF d 2 12 0 [(0, .ref 0), (1, .int a2), (2, .int a3)] [] S I J _
  unfold mX10_tunnel at h
  refine wp_aload_n dX10_tunnel_0 rfl rfl ?_
  refine wp_iload_n dX10_tunnel_1 rfl rfl ?_
  rcases lbi h with ⟨⟨⟩, hF2, h⟩ | ⟨E29, hF2, h⟩
  · refine wp_callVv (ci := 10) (As := [.int a2]) dX10_tunnel_2 lbX10_checkTunnel mlX10_246 imX10_checkTunnel seX10_checkTunnel vc10 (ct_X10_checkTunnel 9 (Nat.le_refl _) hS  hF2) rfl rfl (Nat.le_trans (by decide) hd) (sk0 hS) (sn0 hS) (Nat.le_of_ble_eq_true rfl) (fun _ => ?_)
    refine wp_aload_n dX10_tunnel_5 rfl rfl ?_
    refine wp_getR dX10_tunnel_6 flX10_46 rfl (sk0 hS) (sn0 hS) (sr0_10 hS) ?_
    refine wp_getR dX10_tunnel_9 flX10_249 rfl (sk36 hS) (sn36 hS) (sr36_0 hS) ?_
    refine wp_iload_n dX10_tunnel_12 rfl rfl ?_
    obtain ⟨hb3, h⟩ := ck_inv h
    refine wp_iald dX10_tunnel_13 (sk37 hS) (sn37 hS) hb3 ?_
    refine wp_istore_n (ls' := [(3, .int (I 37 a2.toNatClampNeg)), (0, .ref 0), (1, .int a2), (2, .int a3)]) dX10_tunnel_14 rfl (Nat.le_of_ble_eq_true rfl) rfl ?_
    refine wp_iload_n dX10_tunnel_15 rfl rfl ?_
    by_cases hc4 : a3 = 0
    · have h := ite_t hc4 h
      refine wp_tableIn (off := 60) (tgt := 76) dX10_tunnel_16 (by rw [hc4]; decide) (by rw [hc4]; decide) (by rw [hc4]; decide +kernel) (by decide) ?_
      refine wp_aload_n dX10_tunnel_76 rfl rfl ?_
      refine wp_getR dX10_tunnel_77 flX10_20 rfl (sk0 hS) (sn0 hS) (sr0_6 hS) ?_
      refine wp_getR dX10_tunnel_80 flX10_252 rfl (sk2 hS) (sn2 hS) (sr2_8 hS) ?_
      refine wp_iload_n dX10_tunnel_83 rfl rfl ?_
      refine wp_iald dX10_tunnel_84 (sk8 hS) (sn8 hS) hb3 ?_
      exact wp_iret dX10_tunnel_85 rfl (by obtain rfl := sji h; exact ⟨rfl, rfl, rfl, rfl⟩)
    · have h := ite_f hc4 h
      by_cases hc5 : a3 = 1
      · have h := ite_t hc5 h
        refine wp_tableIn (off := 70) (tgt := 86) dX10_tunnel_16 (by rw [hc5]; decide) (by rw [hc5]; decide) (by rw [hc5]; decide +kernel) (by decide) ?_
        refine wp_aload_n dX10_tunnel_86 rfl rfl ?_
        refine wp_getR dX10_tunnel_87 flX10_20 rfl (sk0 hS) (sn0 hS) (sr0_6 hS) ?_
        refine wp_getR dX10_tunnel_90 flX10_255 rfl (sk2 hS) (sn2 hS) (sr2_9 hS) ?_
        refine wp_iload_n dX10_tunnel_93 rfl rfl ?_
        refine wp_iald dX10_tunnel_94 (sk9 hS) (sn9 hS) hb3 ?_
        exact wp_iret dX10_tunnel_95 rfl (by obtain rfl := sji h; exact ⟨rfl, rfl, rfl, rfl⟩)
      · have h := ite_f hc5 h
        by_cases hc6 : a3 = 2
        · have h := ite_t hc6 h
          refine wp_tableIn (off := 80) (tgt := 96) dX10_tunnel_16 (by rw [hc6]; decide) (by rw [hc6]; decide) (by rw [hc6]; decide +kernel) (by decide) ?_
          refine wp_aload_n dX10_tunnel_96 rfl rfl ?_
          refine wp_getR dX10_tunnel_97 flX10_46 rfl (sk0 hS) (sn0 hS) (sr0_10 hS) ?_
          refine wp_getR dX10_tunnel_100 flX10_258 rfl (sk36 hS) (sn36 hS) (sr36_1 hS) ?_
          refine wp_iload_n dX10_tunnel_103 rfl rfl ?_
          refine wp_iald dX10_tunnel_104 (sk38 hS) (sn38 hS) hb3 ?_
          exact wp_iret dX10_tunnel_105 rfl (by obtain rfl := sji h; exact ⟨rfl, rfl, rfl, rfl⟩)
        · have h := ite_f hc6 h
          by_cases hc7 : a3 = 3
          · have h := ite_t hc7 h
            refine wp_tableIn (off := 90) (tgt := 106) dX10_tunnel_16 (by rw [hc7]; decide) (by rw [hc7]; decide) (by rw [hc7]; decide +kernel) (by decide) ?_
            refine wp_aload_n dX10_tunnel_106 rfl rfl ?_
            refine wp_getR dX10_tunnel_107 flX10_20 rfl (sk0 hS) (sn0 hS) (sr0_6 hS) ?_
            refine wp_getR dX10_tunnel_110 flX10_261 rfl (sk2 hS) (sn2 hS) (sr2_11 hS) ?_
            refine wp_iload_n dX10_tunnel_113 rfl rfl ?_
            refine wp_iald dX10_tunnel_114 (sk11 hS) (sn11 hS) hb3 ?_
            exact wp_iret dX10_tunnel_115 rfl (by obtain rfl := sji h; exact ⟨rfl, rfl, rfl, rfl⟩)
          · have h := ite_f hc7 h
            by_cases hc8 : a3 = 4
            · have h := ite_t hc8 h
              refine wp_tableIn (off := 100) (tgt := 116) dX10_tunnel_16 (by rw [hc8]; decide) (by rw [hc8]; decide) (by rw [hc8]; decide +kernel) (by decide) ?_
              refine wp_aload_n dX10_tunnel_116 rfl rfl ?_
              refine wp_getR dX10_tunnel_117 flX10_20 rfl (sk0 hS) (sn0 hS) (sr0_6 hS) ?_
              refine wp_getR dX10_tunnel_120 flX10_264 rfl (sk2 hS) (sn2 hS) (sr2_12 hS) ?_
              refine wp_iload_n dX10_tunnel_123 rfl rfl ?_
              refine wp_iald dX10_tunnel_124 (sk12 hS) (sn12 hS) hb3 ?_
              exact wp_iret dX10_tunnel_125 rfl (by obtain rfl := sji h; exact ⟨rfl, rfl, rfl, rfl⟩)
            · have h := ite_f hc8 h
              by_cases hc9 : a3 = 5
              · have h := ite_t hc9 h
                refine wp_tableIn (off := 110) (tgt := 126) dX10_tunnel_16 (by rw [hc9]; decide) (by rw [hc9]; decide) (by rw [hc9]; decide +kernel) (by decide) ?_
                refine wp_aload_n dX10_tunnel_126 rfl rfl ?_
                refine wp_getR dX10_tunnel_127 flX10_20 rfl (sk0 hS) (sn0 hS) (sr0_6 hS) ?_
                refine wp_getR dX10_tunnel_130 flX10_267 rfl (sk2 hS) (sn2 hS) (sr2_13 hS) ?_
                refine wp_iload_n dX10_tunnel_133 rfl rfl ?_
                refine wp_iald dX10_tunnel_134 (sk13 hS) (sn13 hS) hb3 ?_
                exact wp_iret dX10_tunnel_135 rfl (by obtain rfl := sji h; exact ⟨rfl, rfl, rfl, rfl⟩)
              · have h := ite_f hc9 h
                by_cases hc10 : a3 = 6
                · have h := ite_t hc10 h
                  refine wp_tableIn (off := 120) (tgt := 136) dX10_tunnel_16 (by rw [hc10]; decide) (by rw [hc10]; decide) (by rw [hc10]; decide +kernel) (by decide) ?_
                  refine wp_aload_n dX10_tunnel_136 rfl rfl ?_
                  refine wp_getR dX10_tunnel_137 flX10_20 rfl (sk0 hS) (sn0 hS) (sr0_6 hS) ?_
                  refine wp_getR dX10_tunnel_140 flX10_270 rfl (sk2 hS) (sn2 hS) (sr2_14 hS) ?_
                  refine wp_iload_n dX10_tunnel_143 rfl rfl ?_
                  refine wp_iald dX10_tunnel_144 (sk14 hS) (sn14 hS) hb3 ?_
                  exact wp_iret dX10_tunnel_145 rfl (by obtain rfl := sji h; exact ⟨rfl, rfl, rfl, rfl⟩)
                · have h := ite_f hc10 h
                  by_cases hc11 : a3 = 7
                  · have h := ite_t hc11 h
                    refine wp_tableIn (off := 130) (tgt := 146) dX10_tunnel_16 (by rw [hc11]; decide) (by rw [hc11]; decide) (by rw [hc11]; decide +kernel) (by decide) ?_
                    refine wp_iload_n dX10_tunnel_146 rfl rfl ?_
                    refine wp_if_eq (tgt := 154) dX10_tunnel_147 (by decide) (fun hc12 => ?_) (fun hc12 => ?_)
                    · have h := ite_t hc12 h
                      refine wp_iconst (v := 0) dX10_tunnel_154 (by decide) ?_
                      exact wp_iret dX10_tunnel_155 rfl (by obtain rfl := sji h; exact ⟨rfl, rfl, rfl, rfl⟩)
                    · have h := ite_f hc12 h
                      refine wp_iconst (v := 1) dX10_tunnel_150 (by decide) ?_
                      refine wp_goto (tgt := 155) dX10_tunnel_151 (by decide) ?_
                      exact wp_iret dX10_tunnel_155 rfl (by obtain rfl := sji h; exact ⟨rfl, rfl, rfl, rfl⟩)
                  · have h := ite_f hc11 h
                    by_cases hc13 : a3 = 8
                    · have h := ite_t hc13 h
                      refine wp_tableIn (off := 140) (tgt := 156) dX10_tunnel_16 (by rw [hc13]; decide) (by rw [hc13]; decide) (by rw [hc13]; decide +kernel) (by decide) ?_
                      refine wp_iload_n dX10_tunnel_156 rfl rfl ?_
                      refine wp_if_eq (tgt := 167) dX10_tunnel_157 (by decide) (fun hc14 => ?_) (fun hc14 => ?_)
                      · have h := ite_t hc14 h
                        refine wp_iconst (v := (-1)) dX10_tunnel_167 (by decide) ?_
                        exact wp_iret dX10_tunnel_168 rfl (by obtain rfl := sji h; exact ⟨rfl, rfl, rfl, rfl⟩)
                      · have h := ite_f hc14 h
                        refine wp_iload_n dX10_tunnel_160 rfl rfl ?_
                        obtain ⟨r15, hF16, h⟩ := obi h
                        refine wp_callSi (As := [.int (I 37 a2.toNatClampNeg)]) dX10_tunnel_161 lbJ6_bitCount_0f7a4 mlX10_194 smJ6_bitCount_0f7a4 (ct_J6_bitCount_0f7a4 0 (Nat.le_refl _) hS  hF16) rfl rfl (Nat.le_trans (by decide) hd) (Nat.le_of_ble_eq_true rfl) (fun _ => ?_)
                        refine wp_goto (tgt := 168) dX10_tunnel_164 (by decide) ?_
                        exact wp_iret dX10_tunnel_168 rfl (by obtain rfl := sji h; exact ⟨rfl, rfl, rfl, rfl⟩)
                    · have h := ite_f hc13 h
                      by_cases hc17 : a3 = 9
                      · have h := ite_t hc17 h
                        refine wp_tableIn (off := 153) (tgt := 169) dX10_tunnel_16 (by rw [hc17]; decide) (by rw [hc17]; decide) (by rw [hc17]; decide +kernel) (by decide) ?_
                        refine wp_iload_n dX10_tunnel_169 rfl rfl ?_
                        refine wp_if_eq (tgt := 184) dX10_tunnel_170 (by decide) (fun hc18 => ?_) (fun hc18 => ?_)
                        · have h := ite_t hc18 h
                          refine wp_iconst (v := (-1)) dX10_tunnel_184 (by decide) ?_
                          exact wp_iret dX10_tunnel_185 rfl (by obtain rfl := sji h; exact ⟨rfl, rfl, rfl, rfl⟩)
                        · have h := ite_f hc18 h
                          refine wp_aload_n dX10_tunnel_173 rfl rfl ?_
                          refine wp_getR dX10_tunnel_174 flX10_20 rfl (sk0 hS) (sn0 hS) (sr0_6 hS) ?_
                          refine wp_iload_n dX10_tunnel_177 rfl rfl ?_
                          obtain ⟨r19, hF20, h⟩ := obi h
                          refine wp_callVNi (ci := 4) (As := [.int (I 37 a2.toNatClampNeg)]) dX10_tunnel_178 lbX4_metricOf mnX10_273 imX4_metricOf seX4_metricOf vc4 (ct_X4_metricOf N 0 (Nat.le_refl _) hS  hF20) rfl rfl (Nat.le_trans (by decide) hd) (sk2 hS) (sn2 hS) (Nat.le_of_ble_eq_true rfl) (fun _ => ?_)
                          refine wp_goto (tgt := 185) dX10_tunnel_181 (by decide) ?_
                          exact wp_iret dX10_tunnel_185 rfl (by obtain rfl := sji h; exact ⟨rfl, rfl, rfl, rfl⟩)
                      · have h := ite_f hc17 h
                        by_cases hc21 : a3 = 10
                        · have h := ite_t hc21 h
                          refine wp_tableIn (off := 170) (tgt := 186) dX10_tunnel_16 (by rw [hc21]; decide) (by rw [hc21]; decide) (by rw [hc21]; decide +kernel) (by decide) ?_
                          refine wp_iload_n dX10_tunnel_186 rfl rfl ?_
                          refine wp_if_eq (tgt := 210) dX10_tunnel_187 (by decide) (fun hc22 => ?_) (fun hc22 => ?_)
                          · have h := ite_t hc22 h
                            refine wp_iconst (v := (-1)) dX10_tunnel_210 (by decide) ?_
                            exact wp_iret dX10_tunnel_211 rfl (by obtain rfl := sji h; exact ⟨rfl, rfl, rfl, rfl⟩)
                          · have h := ite_f hc22 h
                            refine wp_aload_n dX10_tunnel_190 rfl rfl ?_
                            refine wp_getR dX10_tunnel_191 flX10_20 rfl (sk0 hS) (sn0 hS) (sr0_6 hS) ?_
                            refine wp_iload_n dX10_tunnel_194 rfl rfl ?_
                            obtain ⟨r23, hF24, h⟩ := obi h
                            refine wp_callVNi (ci := 4) (As := [.int (I 37 a2.toNatClampNeg)]) dX10_tunnel_195 lbX4_metricOf mnX10_273 imX4_metricOf seX4_metricOf vc4 (ct_X4_metricOf N 0 (Nat.le_refl _) hS  hF24) rfl rfl (Nat.le_trans (by decide) hd) (sk2 hS) (sn2 hS) (Nat.le_of_ble_eq_true rfl) (fun _ => ?_)
                            refine wp_aload_n dX10_tunnel_198 rfl rfl ?_
                            refine wp_getR dX10_tunnel_199 flX10_58 rfl (sk0 hS) (sn0 hS) (sr0_12 hS) ?_
                            refine wp_iload_n dX10_tunnel_202 rfl rfl ?_
                            obtain ⟨⟨r25, I26⟩, hF27, h⟩ := obi h
                            refine wp_callVNi (ci := 2) (As := [.int a2]) dX10_tunnel_203 lbX2_leastMetric mnX10_276 imX2_leastMetric seX2_leastMetric vc2 (ct_X2_leastMetric N 2 (Nat.le_refl _) hS (le42 hS) hF27) rfl rfl (Nat.le_trans (by decide) hd) (sk42 hS) (sn42 hS) (Nat.le_of_ble_eq_true rfl) (fun _ => ?_)
                            refine wp_isub dX10_tunnel_206 ?_
                            refine wp_goto (tgt := 211) dX10_tunnel_207 (by decide) ?_
                            exact wp_iret dX10_tunnel_211 rfl (by obtain rfl := sji h; exact ⟨rfl, rfl, rfl, rfl⟩)
                        · have h := ite_f hc21 h
                          have hs28 : a3.toInt < 0 ∨ 10 < a3.toInt := by
                            by_cases q9 : a3.toInt < 0 ∨ 10 < a3.toInt
                            · exact q9
                            · exfalso
                              rcases (show a3.toInt = 0 ∨ a3.toInt = 1 ∨ a3.toInt = 2 ∨ a3.toInt = 3 ∨ a3.toInt = 4 ∨ a3.toInt = 5 ∨ a3.toInt = 6 ∨ a3.toInt = 7 ∨ a3.toInt = 8 ∨ a3.toInt = 9 ∨ a3.toInt = 10 by omega) with q8 | q8 | q8 | q8 | q8 | q8 | q8 | q8 | q8 | q8 | q8
                              · exact hc4 (i32e q8)
                              · exact hc5 (i32e q8)
                              · exact hc6 (i32e q8)
                              · exact hc7 (i32e q8)
                              · exact hc8 (i32e q8)
                              · exact hc9 (i32e q8)
                              · exact hc10 (i32e q8)
                              · exact hc11 (i32e q8)
                              · exact hc13 (i32e q8)
                              · exact hc17 (i32e q8)
                              · exact hc21 (i32e q8)
                          refine wp_tableOut (tgt := 212) dX10_tunnel_16 hs28 (by decide) ?_
                          exact wp_throwWN (i := 12) dX10_tunnel_212 dX10_tunnel_215 dX10_tunnel_216 dX10_tunnel_219 dX10_tunnel_222 rfl clX10_177 rfl (Nat.le_trans (by decide) hd) (by obtain rfl := sji h; exact ⟨rfl, rfl, rfl, rfl⟩)
  · exact wp_callVx (ci := 10) (As := [.int a2]) dX10_tunnel_2 lbX10_checkTunnel mlX10_246 imX10_checkTunnel seX10_checkTunnel vc10 (ct_X10_checkTunnel 9 (Nat.le_refl _) hS  hF2) rfl rfl (Nat.le_trans (by decide) hd) (sk0 hS) (sn0 hS) (Nat.le_of_ble_eq_true rfl) rfl (by obtain rfl := sji h; exact ⟨rfl, rfl, rfl, rfl⟩)
def mX10_way (N : Nat) (a2 : Int32) (a3 : Int32) (I : gI) : Option ((Int32 ⊕ String)) := lbind (mX10_checkTunnel a2 I) (fun _ => lbind (mX10_checkPlace a3 I) (fun _ => ck a2 9 (Option.bind (mX4_linkAt N (I 37 a2.toNatClampNeg) (I 8 a2.toNatClampNeg) a3 I) (fun r6 => if r6 = (-1) then (some (.inr "java/util/NoSuchElementException")) else (some (.inl r6))))) (fun E9 => some (.inr E9))) (fun E10 => some (.inr E10))
set_option maxHeartbeats 4000000 in
set_option maxRecDepth 100000 in
theorem ct_X10_way (N : Nat) (d : Nat) (hd : 10 ≤ d) {S : gS} {J : gJ} (hS : Sh S)  {a2 : Int32} {a3 : Int32} {I : gI} {r : (Int32 ⊕ String)} (h : mX10_way N a2 a3 I = some r) : Ct yX10_way (wsY yX10_way cX10_way 4 (some .int)) d 3 18 [.ref 0, .int a2, .int a3] S I J (qE (oI r) S I J) := by
  refine Ct.of hF (fun _ _ _ _ _ => trivial) (by decide +kernel) (Nat.le_of_ble_eq_true rfl) ⟨Or.inl (sn0 hS), trivial, trivial, trivial⟩ ?_
  show Wp RX10 cX10_way 4 (some .int) [] hF d 3 18 0 [(0, .ref 0), (1, .int a2), (2, .int a3)] [] S I J _
  unfold mX10_way at h
  refine wp_aload_n dX10_way_0 rfl rfl ?_
  refine wp_iload_n dX10_way_1 rfl rfl ?_
  rcases lbi h with ⟨⟨⟩, hF2, h⟩ | ⟨E10, hF2, h⟩
  · refine wp_callVv (ci := 10) (As := [.int a2]) dX10_way_2 lbX10_checkTunnel mlX10_246 imX10_checkTunnel seX10_checkTunnel vc10 (ct_X10_checkTunnel 9 (Nat.le_refl _) hS  hF2) rfl rfl (Nat.le_trans (by decide) hd) (sk0 hS) (sn0 hS) (Nat.le_of_ble_eq_true rfl) (fun _ => ?_)
    refine wp_iload_n dX10_way_5 rfl rfl ?_
    rcases lbi h with ⟨⟨⟩, hF4, h⟩ | ⟨E9, hF4, h⟩
    · refine wp_callSv (As := [.int a3]) dX10_way_6 lbX10_checkPlace mlX10_281 smX10_checkPlace (ct_X10_checkPlace 9 (Nat.le_refl _) hS  hF4) rfl rfl (Nat.le_trans (by decide) hd) (Nat.le_of_ble_eq_true rfl) (fun _ => ?_)
      refine wp_aload_n dX10_way_9 rfl rfl ?_
      refine wp_getR dX10_way_10 flX10_20 rfl (sk0 hS) (sn0 hS) (sr0_6 hS) ?_
      refine wp_aload_n dX10_way_13 rfl rfl ?_
      refine wp_getR dX10_way_14 flX10_46 rfl (sk0 hS) (sn0 hS) (sr0_10 hS) ?_
      refine wp_getR dX10_way_17 flX10_249 rfl (sk36 hS) (sn36 hS) (sr36_0 hS) ?_
      refine wp_iload_n dX10_way_20 rfl rfl ?_
      obtain ⟨hb5, h⟩ := ck_inv h
      refine wp_iald dX10_way_21 (sk37 hS) (sn37 hS) hb5 ?_
      refine wp_aload_n dX10_way_22 rfl rfl ?_
      refine wp_getR dX10_way_23 flX10_20 rfl (sk0 hS) (sn0 hS) (sr0_6 hS) ?_
      refine wp_getR dX10_way_26 flX10_252 rfl (sk2 hS) (sn2 hS) (sr2_8 hS) ?_
      refine wp_iload_n dX10_way_29 rfl rfl ?_
      refine wp_iald dX10_way_30 (sk8 hS) (sn8 hS) hb5 ?_
      refine wp_iload_n dX10_way_31 rfl rfl ?_
      obtain ⟨r6, hF7, h⟩ := obi h
      refine wp_callVNi (ci := 4) (As := [.int (I 37 a2.toNatClampNeg), .int (I 8 a2.toNatClampNeg), .int a3]) dX10_way_32 lbX4_linkAt mnX10_284 imX4_linkAt seX4_linkAt vc4 (ct_X4_linkAt N 1 (Nat.le_refl _) hS  hF7) rfl rfl (Nat.le_trans (by decide) hd) (sk2 hS) (sn2 hS) (Nat.le_of_ble_eq_true rfl) (fun _ => ?_)
      refine wp_istore_n (ls' := [(3, .int r6), (0, .ref 0), (1, .int a2), (2, .int a3)]) dX10_way_35 rfl (Nat.le_of_ble_eq_true rfl) rfl ?_
      refine wp_iload_n dX10_way_36 rfl rfl ?_
      refine wp_iconst (v := (-1)) dX10_way_37 (by decide) ?_
      refine wp_icmp_ne (tgt := 52) dX10_way_38 (by decide) (fun hc8 => ?_) (fun hc8 => ?_)
      · have h := ite_f hc8 h
        refine wp_iload_n dX10_way_52 rfl rfl ?_
        exact wp_iret dX10_way_53 rfl (by obtain rfl := sji h; exact ⟨rfl, rfl, rfl, rfl⟩)
      · have h := ite_t hc8 h
        exact wp_throwWN (i := 13) dX10_way_41 dX10_way_44 dX10_way_45 dX10_way_48 dX10_way_51 rfl clX10_177 rfl (Nat.le_trans (by decide) hd) (by obtain rfl := sji h; exact ⟨rfl, rfl, rfl, rfl⟩)
    · exact wp_callSx (As := [.int a3]) dX10_way_6 lbX10_checkPlace mlX10_281 smX10_checkPlace (ct_X10_checkPlace 9 (Nat.le_refl _) hS  hF4) rfl rfl (Nat.le_trans (by decide) hd) (Nat.le_of_ble_eq_true rfl) rfl (by obtain rfl := sji h; exact ⟨rfl, rfl, rfl, rfl⟩)
  · exact wp_callVx (ci := 10) (As := [.int a2]) dX10_way_2 lbX10_checkTunnel mlX10_246 imX10_checkTunnel seX10_checkTunnel vc10 (ct_X10_checkTunnel 9 (Nat.le_refl _) hS  hF2) rfl rfl (Nat.le_trans (by decide) hd) (sk0 hS) (sn0 hS) (Nat.le_of_ble_eq_true rfl) rfl (by obtain rfl := sji h; exact ⟨rfl, rfl, rfl, rfl⟩)
def mX10_best (N : Nat) (a2 : Int32) (a3 : Int32) (I : gI) : Option ((Int32 ⊕ String) × gI) := lbind (mX10_checkTunnel a2 I) (fun _ => lbind (mX10_checkPlace a3 I) (fun _ => Option.bind (mX2_bestNow N 36 a2 I) (fun (r5, I6) => ck a2 9 (Option.bind (mX4_linkAt N r5 (I6 8 a2.toNatClampNeg) a3 I6) (fun r9 => some (.inl r9, I6))))) (fun E11 => some (.inr E11, I))) (fun E12 => some (.inr E12, I))
set_option maxHeartbeats 4000000 in
set_option maxRecDepth 100000 in
theorem ct_X10_best (N : Nat) (d : Nat) (hd : 10 ≤ d) {S : gS} {J : gJ} (hS : Sh S)  {a2 : Int32} {a3 : Int32} {I : gI} {r : (Int32 ⊕ String) × gI} (h : mX10_best N a2 a3 I = some r) : Ct yX10_best (wsY yX10_best cX10_best 3 (some .int)) d 2 12 [.ref 0, .int a2, .int a3] S I J (qE (oI r.1) S r.2 J) := by
  refine Ct.of hF (fun _ _ _ _ _ => trivial) (by decide +kernel) (Nat.le_of_ble_eq_true rfl) ⟨Or.inl (sn0 hS), trivial, trivial, trivial⟩ ?_
  show Wp RX10 cX10_best 3 (some .int) [] hF d 2 12 0 [(0, .ref 0), (1, .int a2), (2, .int a3)] [] S I J _
  unfold mX10_best at h
  refine wp_aload_n dX10_best_0 rfl rfl ?_
  refine wp_iload_n dX10_best_1 rfl rfl ?_
  rcases lbi h with ⟨⟨⟩, hF2, h⟩ | ⟨E12, hF2, h⟩
  · refine wp_callVv (ci := 10) (As := [.int a2]) dX10_best_2 lbX10_checkTunnel mlX10_246 imX10_checkTunnel seX10_checkTunnel vc10 (ct_X10_checkTunnel 9 (Nat.le_refl _) hS  hF2) rfl rfl (Nat.le_trans (by decide) hd) (sk0 hS) (sn0 hS) (Nat.le_of_ble_eq_true rfl) (fun _ => ?_)
    refine wp_iload_n dX10_best_5 rfl rfl ?_
    rcases lbi h with ⟨⟨⟩, hF4, h⟩ | ⟨E11, hF4, h⟩
    · refine wp_callSv (As := [.int a3]) dX10_best_6 lbX10_checkPlace mlX10_281 smX10_checkPlace (ct_X10_checkPlace 9 (Nat.le_refl _) hS  hF4) rfl rfl (Nat.le_trans (by decide) hd) (Nat.le_of_ble_eq_true rfl) (fun _ => ?_)
      refine wp_aload_n dX10_best_9 rfl rfl ?_
      refine wp_getR dX10_best_10 flX10_20 rfl (sk0 hS) (sn0 hS) (sr0_6 hS) ?_
      refine wp_aload_n dX10_best_13 rfl rfl ?_
      refine wp_getR dX10_best_14 flX10_58 rfl (sk0 hS) (sn0 hS) (sr0_12 hS) ?_
      refine wp_iload_n dX10_best_17 rfl rfl ?_
      obtain ⟨⟨r5, I6⟩, hF7, h⟩ := obi h
      refine wp_callVNi (ci := 2) (As := [.int a2]) dX10_best_18 lbX2_bestNow mnX10_289 imX2_bestNow seX2_bestNow vc2 (ct_X2_bestNow N 4 (Nat.le_refl _) hS (le42 hS) hF7) rfl rfl (Nat.le_trans (by decide) hd) (sk42 hS) (sn42 hS) (Nat.le_of_ble_eq_true rfl) (fun _ => ?_)
      refine wp_aload_n dX10_best_21 rfl rfl ?_
      refine wp_getR dX10_best_22 flX10_20 rfl (sk0 hS) (sn0 hS) (sr0_6 hS) ?_
      refine wp_getR dX10_best_25 flX10_252 rfl (sk2 hS) (sn2 hS) (sr2_8 hS) ?_
      refine wp_iload_n dX10_best_28 rfl rfl ?_
      obtain ⟨hb8, h⟩ := ck_inv h
      refine wp_iald dX10_best_29 (sk8 hS) (sn8 hS) hb8 ?_
      refine wp_iload_n dX10_best_30 rfl rfl ?_
      obtain ⟨r9, hF10, h⟩ := obi h
      refine wp_callVNi (ci := 4) (As := [.int r5, .int (I6 8 a2.toNatClampNeg), .int a3]) dX10_best_31 lbX4_linkAt mnX10_284 imX4_linkAt seX4_linkAt vc4 (ct_X4_linkAt N 1 (Nat.le_refl _) hS  hF10) rfl rfl (Nat.le_trans (by decide) hd) (sk2 hS) (sn2 hS) (Nat.le_of_ble_eq_true rfl) (fun _ => ?_)
      exact wp_iret dX10_best_34 rfl (by obtain rfl := sji h; exact ⟨rfl, rfl, rfl, rfl⟩)
    · exact wp_callSx (As := [.int a3]) dX10_best_6 lbX10_checkPlace mlX10_281 smX10_checkPlace (ct_X10_checkPlace 9 (Nat.le_refl _) hS  hF4) rfl rfl (Nat.le_trans (by decide) hd) (Nat.le_of_ble_eq_true rfl) rfl (by obtain rfl := sji h; exact ⟨rfl, rfl, rfl, rfl⟩)
  · exact wp_callVx (ci := 10) (As := [.int a2]) dX10_best_2 lbX10_checkTunnel mlX10_246 imX10_checkTunnel seX10_checkTunnel vc10 (ct_X10_checkTunnel 9 (Nat.le_refl _) hS  hF2) rfl rfl (Nat.le_trans (by decide) hd) (sk0 hS) (sn0 hS) (Nat.le_of_ble_eq_true rfl) rfl (by obtain rfl := sji h; exact ⟨rfl, rfl, rfl, rfl⟩)
def mX10_pushes (N : Nat) (a2 : Int32) (a3 : Int32) (I : gI) : Option ((Int32 ⊕ String) × gI) := lbind (mX10_checkTunnel a2 I) (fun _ => if a3 = 0 then (Option.bind (mX2_bestNow N 36 a2 I) (fun (r4, I5) => if r4 = 0 then (some (.inl (-1), I5)) else (Option.bind (mX2_standing N 36 I5) (fun r8 => Option.bind (mX8_copyFrom N 39 36 I5) (fun I10 => ck a2 9 (Option.bind (mX2_whomToPush N 36 a2 (upd2 I10 37 a2.toNatClampNeg r4)) (fun r13 => Option.bind (mX2_drop N 36 r13 (upd2 I10 37 a2.toNatClampNeg r4)) (fun I15 => Option.bind (mX2_settle N 36 r13 I15) (fun (r17, I18) => Option.bind (mX2_standing N 36 I18) (fun r20 => nm ((r8 &&& (((1 : Int32) <<< (a2 &&& 31)) ^^^ (-1))) &&& (r20 ^^^ (-1))) (fun x22 => Option.bind (mJ6_bitCount_0f7a4 x22 I18) (fun r24 => Option.bind (mX8_copyFrom N 36 39 I18) (fun I26 => if a3 = 0 then (some (.inl r13, I26)) else (some (.inl r24, I26))))))))))))))) else (if a3 = 1 then (Option.bind (mX2_bestNow N 36 a2 I) (fun (r30, I31) => if r30 = 0 then (some (.inl (-1), I31)) else (Option.bind (mX2_standing N 36 I31) (fun r34 => Option.bind (mX8_copyFrom N 39 36 I31) (fun I36 => ck a2 9 (Option.bind (mX2_whomToPush N 36 a2 (upd2 I36 37 a2.toNatClampNeg r30)) (fun r39 => Option.bind (mX2_drop N 36 r39 (upd2 I36 37 a2.toNatClampNeg r30)) (fun I41 => Option.bind (mX2_settle N 36 r39 I41) (fun (r43, I44) => Option.bind (mX2_standing N 36 I44) (fun r46 => nm ((r34 &&& (((1 : Int32) <<< (a2 &&& 31)) ^^^ (-1))) &&& (r46 ^^^ (-1))) (fun x48 => Option.bind (mJ6_bitCount_0f7a4 x48 I44) (fun r50 => Option.bind (mX8_copyFrom N 36 39 I44) (fun I52 => if a3 = 0 then (some (.inl r39, I52)) else (some (.inl r50, I52))))))))))))))) else (some (.inr "java/util/NoSuchElementException", I)))) (fun E55 => some (.inr E55, I))
set_option maxHeartbeats 4000000 in
set_option maxRecDepth 100000 in
theorem ct_X10_pushes (N : Nat) (d : Nat) (hd : 10 ≤ d) {S : gS} {J : gJ} (hS : Sh S)  {a2 : Int32} {a3 : Int32} {I : gI} {r : (Int32 ⊕ String) × gI} (h : mX10_pushes N a2 a3 I = some r) : Ct yX10_pushes (wsY yX10_pushes cX10_pushes 7 (some .int)) d 2 12 [.ref 0, .int a2, .int a3] S I J (qE (oI r.1) S r.2 J) := by
  refine Ct.of hF (fun _ _ _ _ _ => trivial) (by decide +kernel) (Nat.le_of_ble_eq_true rfl) ⟨Or.inl (sn0 hS), trivial, trivial, trivial⟩ ?_
  show Wp RX10 cX10_pushes 7 (some .int) [] hF d 2 12 0 [(0, .ref 0), (1, .int a2), (2, .int a3)] [] S I J _
  unfold mX10_pushes at h
  refine wp_aload_n dX10_pushes_0 rfl rfl ?_
  refine wp_iload_n dX10_pushes_1 rfl rfl ?_
  rcases lbi h with ⟨⟨⟩, hF2, h⟩ | ⟨E55, hF2, h⟩
  · refine wp_callVv (ci := 10) (As := [.int a2]) dX10_pushes_2 lbX10_checkTunnel mlX10_246 imX10_checkTunnel seX10_checkTunnel vc10 (ct_X10_checkTunnel 9 (Nat.le_refl _) hS  hF2) rfl rfl (Nat.le_trans (by decide) hd) (sk0 hS) (sn0 hS) (Nat.le_of_ble_eq_true rfl) (fun _ => ?_)
    refine wp_iload_n dX10_pushes_5 rfl rfl ?_
    refine wp_if_eq (tgt := 25) dX10_pushes_6 (by decide) (fun hc3 => ?_) (fun hc3 => ?_)
    · have h := ite_t hc3 h
      refine wp_aload_n dX10_pushes_25 rfl rfl ?_
      refine wp_getR dX10_pushes_26 flX10_58 rfl (sk0 hS) (sn0 hS) (sr0_12 hS) ?_
      refine wp_iload_n dX10_pushes_29 rfl rfl ?_
      obtain ⟨⟨r4, I5⟩, hF6, h⟩ := obi h
      refine wp_callVNi (ci := 2) (As := [.int a2]) dX10_pushes_30 lbX2_bestNow mnX10_289 imX2_bestNow seX2_bestNow vc2 (ct_X2_bestNow N 4 (Nat.le_refl _) hS (le42 hS) hF6) rfl rfl (Nat.le_trans (by decide) hd) (sk42 hS) (sn42 hS) (Nat.le_of_ble_eq_true rfl) (fun _ => ?_)
      refine wp_istore_n (ls' := [(3, .int r4), (0, .ref 0), (1, .int a2), (2, .int a3)]) dX10_pushes_33 rfl (Nat.le_of_ble_eq_true rfl) rfl ?_
      refine wp_iload_n dX10_pushes_34 rfl rfl ?_
      refine wp_if_ne (tgt := 40) dX10_pushes_35 (by decide) (fun hc7 => ?_) (fun hc7 => ?_)
      · have h := ite_f hc7 h
        refine wp_aload_n dX10_pushes_40 rfl rfl ?_
        refine wp_getR dX10_pushes_41 flX10_58 rfl (sk0 hS) (sn0 hS) (sr0_12 hS) ?_
        obtain ⟨r8, hF9, h⟩ := obi h
        refine wp_callVNi (ci := 2) (As := []) dX10_pushes_44 lbX2_standing mnX10_141 imX2_standing seX2_standing vc2 (ct_X2_standing N 0 (Nat.le_refl _) hS (le42 hS) hF9) rfl rfl (Nat.le_trans (by decide) hd) (sk42 hS) (sn42 hS) (Nat.le_of_ble_eq_true rfl) (fun _ => ?_)
        refine wp_iconst (v := 1) dX10_pushes_47 (by decide) ?_
        refine wp_iload_n dX10_pushes_48 rfl rfl ?_
        refine wp_ishl dX10_pushes_49 ?_
        refine wp_iconst (v := (-1)) dX10_pushes_50 (by decide) ?_
        refine wp_ixor dX10_pushes_51 ?_
        refine wp_iand dX10_pushes_52 ?_
        refine wp_istore (ls' := [(4, .int (r8 &&& (((1 : Int32) <<< (a2 &&& 31)) ^^^ (-1)))), (3, .int r4), (0, .ref 0), (1, .int a2), (2, .int a3)]) dX10_pushes_53 (Nat.le_of_ble_eq_true rfl) rfl ?_
        refine wp_aload_n dX10_pushes_55 rfl rfl ?_
        refine wp_getR dX10_pushes_56 flX10_50 rfl (sk0 hS) (sn0 hS) (sr0_11 hS) ?_
        refine wp_aload_n dX10_pushes_59 rfl rfl ?_
        refine wp_getR dX10_pushes_60 flX10_46 rfl (sk0 hS) (sn0 hS) (sr0_10 hS) ?_
        obtain ⟨I10, hF11, h⟩ := obi h
        refine wp_callVNv (ci := 8) (As := [.ref 36]) dX10_pushes_63 lbX8_copyFrom mnX10_185 imX8_copyFrom seX8_copyFrom vc8 (ct_X8_copyFrom N 0 (Nat.le_refl _) hS (st39 hS) (st36 hS) hF11) rfl rfl (Nat.le_trans (by decide) hd) (sk39 hS) (sn39 hS) (Nat.le_of_ble_eq_true rfl) (fun _ => ?_)
        refine wp_aload_n dX10_pushes_66 rfl rfl ?_
        refine wp_getR dX10_pushes_67 flX10_46 rfl (sk0 hS) (sn0 hS) (sr0_10 hS) ?_
        refine wp_getR dX10_pushes_70 flX10_249 rfl (sk36 hS) (sn36 hS) (sr36_0 hS) ?_
        refine wp_iload_n dX10_pushes_73 rfl rfl ?_
        refine wp_iload_n dX10_pushes_74 rfl rfl ?_
        obtain ⟨hb12, h⟩ := ck_inv h
        refine wp_iast dX10_pushes_75 (sk37 hS) (sn37 hS) hb12 ?_
        refine wp_aload_n dX10_pushes_76 rfl rfl ?_
        refine wp_getR dX10_pushes_77 flX10_58 rfl (sk0 hS) (sn0 hS) (sr0_12 hS) ?_
        refine wp_iload_n dX10_pushes_80 rfl rfl ?_
        obtain ⟨r13, hF14, h⟩ := obi h
        refine wp_callVNi (ci := 2) (As := [.int a2]) dX10_pushes_81 lbX2_whomToPush mnX10_294 imX2_whomToPush seX2_whomToPush vc2 (ct_X2_whomToPush N 2 (Nat.le_refl _) hS (le42 hS) hF14) rfl rfl (Nat.le_trans (by decide) hd) (sk42 hS) (sn42 hS) (Nat.le_of_ble_eq_true rfl) (fun _ => ?_)
        refine wp_istore (ls' := [(5, .int r13), (4, .int (r8 &&& (((1 : Int32) <<< (a2 &&& 31)) ^^^ (-1)))), (3, .int r4), (0, .ref 0), (1, .int a2), (2, .int a3)]) dX10_pushes_84 (Nat.le_of_ble_eq_true rfl) rfl ?_
        refine wp_aload_n dX10_pushes_86 rfl rfl ?_
        refine wp_getR dX10_pushes_87 flX10_58 rfl (sk0 hS) (sn0 hS) (sr0_12 hS) ?_
        refine wp_iload dX10_pushes_90 rfl ?_
        obtain ⟨I15, hF16, h⟩ := obi h
        refine wp_callVNv (ci := 2) (As := [.int r13]) dX10_pushes_92 lbX2_drop mnX10_297 imX2_drop seX2_drop vc2 (ct_X2_drop N 0 (Nat.le_refl _) hS (le42 hS) hF16) rfl rfl (Nat.le_trans (by decide) hd) (sk42 hS) (sn42 hS) (Nat.le_of_ble_eq_true rfl) (fun _ => ?_)
        refine wp_aload_n dX10_pushes_95 rfl rfl ?_
        refine wp_getR dX10_pushes_96 flX10_58 rfl (sk0 hS) (sn0 hS) (sr0_12 hS) ?_
        refine wp_iload dX10_pushes_99 rfl ?_
        obtain ⟨⟨r17, I18⟩, hF19, h⟩ := obi h
        refine wp_callVNi (ci := 2) (As := [.int r13]) dX10_pushes_101 lbX2_settle mnX10_191 imX2_settle seX2_settle vc2 (ct_X2_settle N 4 (Nat.le_refl _) hS (le42 hS) hF19) rfl rfl (Nat.le_trans (by decide) hd) (sk42 hS) (sn42 hS) (Nat.le_of_ble_eq_true rfl) (fun _ => ?_)
        refine wp_pop dX10_pushes_104 rfl ?_
        refine wp_iload dX10_pushes_105 rfl ?_
        refine wp_aload_n dX10_pushes_107 rfl rfl ?_
        refine wp_getR dX10_pushes_108 flX10_58 rfl (sk0 hS) (sn0 hS) (sr0_12 hS) ?_
        obtain ⟨r20, hF21, h⟩ := obi h
        refine wp_callVNi (ci := 2) (As := []) dX10_pushes_111 lbX2_standing mnX10_141 imX2_standing seX2_standing vc2 (ct_X2_standing N 0 (Nat.le_refl _) hS (le42 hS) hF21) rfl rfl (Nat.le_trans (by decide) hd) (sk42 hS) (sn42 hS) (Nat.le_of_ble_eq_true rfl) (fun _ => ?_)
        refine wp_iconst (v := (-1)) dX10_pushes_114 (by decide) ?_
        refine wp_ixor dX10_pushes_115 ?_
        refine wp_iand dX10_pushes_116 ?_
        obtain ⟨x22, hx23, h⟩ := nm_inv h
        refine wp_topi hx23 ?_
        obtain ⟨r24, hF25, h⟩ := obi h
        refine wp_callSi (As := [.int x22]) dX10_pushes_117 lbJ6_bitCount_0f7a4 mlX10_194 smJ6_bitCount_0f7a4 (ct_J6_bitCount_0f7a4 0 (Nat.le_refl _) hS  hF25) rfl rfl (Nat.le_trans (by decide) hd) (Nat.le_of_ble_eq_true rfl) (fun _ => ?_)
        refine wp_istore (ls' := [(6, .int r24), (5, .int r13), (4, .int (r8 &&& (((1 : Int32) <<< (a2 &&& 31)) ^^^ (-1)))), (3, .int r4), (0, .ref 0), (1, .int a2), (2, .int a3)]) dX10_pushes_120 (Nat.le_of_ble_eq_true rfl) rfl ?_
        refine wp_aload_n dX10_pushes_122 rfl rfl ?_
        refine wp_getR dX10_pushes_123 flX10_46 rfl (sk0 hS) (sn0 hS) (sr0_10 hS) ?_
        refine wp_aload_n dX10_pushes_126 rfl rfl ?_
        refine wp_getR dX10_pushes_127 flX10_50 rfl (sk0 hS) (sn0 hS) (sr0_11 hS) ?_
        obtain ⟨I26, hF27, h⟩ := obi h
        refine wp_callVNv (ci := 8) (As := [.ref 39]) dX10_pushes_130 lbX8_copyFrom mnX10_185 imX8_copyFrom seX8_copyFrom vc8 (ct_X8_copyFrom N 0 (Nat.le_refl _) hS (st36 hS) (st39 hS) hF27) rfl rfl (Nat.le_trans (by decide) hd) (sk36 hS) (sn36 hS) (Nat.le_of_ble_eq_true rfl) (fun _ => ?_)
        refine wp_iload_n dX10_pushes_133 rfl rfl ?_
        refine wp_if_ne (tgt := 142) dX10_pushes_134 (by decide) (fun hc28 => ?_) (fun hc28 => ?_)
        · have h := ite_f hc28 h
          refine wp_iload dX10_pushes_142 rfl ?_
          exact wp_iret dX10_pushes_144 rfl (by obtain rfl := sji h; exact ⟨rfl, rfl, rfl, rfl⟩)
        · have h := ite_t hc28 h
          refine wp_iload dX10_pushes_137 rfl ?_
          refine wp_goto (tgt := 144) dX10_pushes_139 (by decide) ?_
          exact wp_iret dX10_pushes_144 rfl (by obtain rfl := sji h; exact ⟨rfl, rfl, rfl, rfl⟩)
      · have h := ite_t hc7 h
        refine wp_iconst (v := (-1)) dX10_pushes_38 (by decide) ?_
        exact wp_iret dX10_pushes_39 rfl (by obtain rfl := sji h; exact ⟨rfl, rfl, rfl, rfl⟩)
    · have h := ite_f hc3 h
      refine wp_iload_n dX10_pushes_9 rfl rfl ?_
      refine wp_iconst (v := 1) dX10_pushes_10 (by decide) ?_
      refine wp_icmp_eq (tgt := 25) dX10_pushes_11 (by decide) (fun hc29 => ?_) (fun hc29 => ?_)
      · have h := ite_t hc29 h
        refine wp_aload_n dX10_pushes_25 rfl rfl ?_
        refine wp_getR dX10_pushes_26 flX10_58 rfl (sk0 hS) (sn0 hS) (sr0_12 hS) ?_
        refine wp_iload_n dX10_pushes_29 rfl rfl ?_
        obtain ⟨⟨r30, I31⟩, hF32, h⟩ := obi h
        refine wp_callVNi (ci := 2) (As := [.int a2]) dX10_pushes_30 lbX2_bestNow mnX10_289 imX2_bestNow seX2_bestNow vc2 (ct_X2_bestNow N 4 (Nat.le_refl _) hS (le42 hS) hF32) rfl rfl (Nat.le_trans (by decide) hd) (sk42 hS) (sn42 hS) (Nat.le_of_ble_eq_true rfl) (fun _ => ?_)
        refine wp_istore_n (ls' := [(3, .int r30), (0, .ref 0), (1, .int a2), (2, .int a3)]) dX10_pushes_33 rfl (Nat.le_of_ble_eq_true rfl) rfl ?_
        refine wp_iload_n dX10_pushes_34 rfl rfl ?_
        refine wp_if_ne (tgt := 40) dX10_pushes_35 (by decide) (fun hc33 => ?_) (fun hc33 => ?_)
        · have h := ite_f hc33 h
          refine wp_aload_n dX10_pushes_40 rfl rfl ?_
          refine wp_getR dX10_pushes_41 flX10_58 rfl (sk0 hS) (sn0 hS) (sr0_12 hS) ?_
          obtain ⟨r34, hF35, h⟩ := obi h
          refine wp_callVNi (ci := 2) (As := []) dX10_pushes_44 lbX2_standing mnX10_141 imX2_standing seX2_standing vc2 (ct_X2_standing N 0 (Nat.le_refl _) hS (le42 hS) hF35) rfl rfl (Nat.le_trans (by decide) hd) (sk42 hS) (sn42 hS) (Nat.le_of_ble_eq_true rfl) (fun _ => ?_)
          refine wp_iconst (v := 1) dX10_pushes_47 (by decide) ?_
          refine wp_iload_n dX10_pushes_48 rfl rfl ?_
          refine wp_ishl dX10_pushes_49 ?_
          refine wp_iconst (v := (-1)) dX10_pushes_50 (by decide) ?_
          refine wp_ixor dX10_pushes_51 ?_
          refine wp_iand dX10_pushes_52 ?_
          refine wp_istore (ls' := [(4, .int (r34 &&& (((1 : Int32) <<< (a2 &&& 31)) ^^^ (-1)))), (3, .int r30), (0, .ref 0), (1, .int a2), (2, .int a3)]) dX10_pushes_53 (Nat.le_of_ble_eq_true rfl) rfl ?_
          refine wp_aload_n dX10_pushes_55 rfl rfl ?_
          refine wp_getR dX10_pushes_56 flX10_50 rfl (sk0 hS) (sn0 hS) (sr0_11 hS) ?_
          refine wp_aload_n dX10_pushes_59 rfl rfl ?_
          refine wp_getR dX10_pushes_60 flX10_46 rfl (sk0 hS) (sn0 hS) (sr0_10 hS) ?_
          obtain ⟨I36, hF37, h⟩ := obi h
          refine wp_callVNv (ci := 8) (As := [.ref 36]) dX10_pushes_63 lbX8_copyFrom mnX10_185 imX8_copyFrom seX8_copyFrom vc8 (ct_X8_copyFrom N 0 (Nat.le_refl _) hS (st39 hS) (st36 hS) hF37) rfl rfl (Nat.le_trans (by decide) hd) (sk39 hS) (sn39 hS) (Nat.le_of_ble_eq_true rfl) (fun _ => ?_)
          refine wp_aload_n dX10_pushes_66 rfl rfl ?_
          refine wp_getR dX10_pushes_67 flX10_46 rfl (sk0 hS) (sn0 hS) (sr0_10 hS) ?_
          refine wp_getR dX10_pushes_70 flX10_249 rfl (sk36 hS) (sn36 hS) (sr36_0 hS) ?_
          refine wp_iload_n dX10_pushes_73 rfl rfl ?_
          refine wp_iload_n dX10_pushes_74 rfl rfl ?_
          obtain ⟨hb38, h⟩ := ck_inv h
          refine wp_iast dX10_pushes_75 (sk37 hS) (sn37 hS) hb38 ?_
          refine wp_aload_n dX10_pushes_76 rfl rfl ?_
          refine wp_getR dX10_pushes_77 flX10_58 rfl (sk0 hS) (sn0 hS) (sr0_12 hS) ?_
          refine wp_iload_n dX10_pushes_80 rfl rfl ?_
          obtain ⟨r39, hF40, h⟩ := obi h
          refine wp_callVNi (ci := 2) (As := [.int a2]) dX10_pushes_81 lbX2_whomToPush mnX10_294 imX2_whomToPush seX2_whomToPush vc2 (ct_X2_whomToPush N 2 (Nat.le_refl _) hS (le42 hS) hF40) rfl rfl (Nat.le_trans (by decide) hd) (sk42 hS) (sn42 hS) (Nat.le_of_ble_eq_true rfl) (fun _ => ?_)
          refine wp_istore (ls' := [(5, .int r39), (4, .int (r34 &&& (((1 : Int32) <<< (a2 &&& 31)) ^^^ (-1)))), (3, .int r30), (0, .ref 0), (1, .int a2), (2, .int a3)]) dX10_pushes_84 (Nat.le_of_ble_eq_true rfl) rfl ?_
          refine wp_aload_n dX10_pushes_86 rfl rfl ?_
          refine wp_getR dX10_pushes_87 flX10_58 rfl (sk0 hS) (sn0 hS) (sr0_12 hS) ?_
          refine wp_iload dX10_pushes_90 rfl ?_
          obtain ⟨I41, hF42, h⟩ := obi h
          refine wp_callVNv (ci := 2) (As := [.int r39]) dX10_pushes_92 lbX2_drop mnX10_297 imX2_drop seX2_drop vc2 (ct_X2_drop N 0 (Nat.le_refl _) hS (le42 hS) hF42) rfl rfl (Nat.le_trans (by decide) hd) (sk42 hS) (sn42 hS) (Nat.le_of_ble_eq_true rfl) (fun _ => ?_)
          refine wp_aload_n dX10_pushes_95 rfl rfl ?_
          refine wp_getR dX10_pushes_96 flX10_58 rfl (sk0 hS) (sn0 hS) (sr0_12 hS) ?_
          refine wp_iload dX10_pushes_99 rfl ?_
          obtain ⟨⟨r43, I44⟩, hF45, h⟩ := obi h
          refine wp_callVNi (ci := 2) (As := [.int r39]) dX10_pushes_101 lbX2_settle mnX10_191 imX2_settle seX2_settle vc2 (ct_X2_settle N 4 (Nat.le_refl _) hS (le42 hS) hF45) rfl rfl (Nat.le_trans (by decide) hd) (sk42 hS) (sn42 hS) (Nat.le_of_ble_eq_true rfl) (fun _ => ?_)
          refine wp_pop dX10_pushes_104 rfl ?_
          refine wp_iload dX10_pushes_105 rfl ?_
          refine wp_aload_n dX10_pushes_107 rfl rfl ?_
          refine wp_getR dX10_pushes_108 flX10_58 rfl (sk0 hS) (sn0 hS) (sr0_12 hS) ?_
          obtain ⟨r46, hF47, h⟩ := obi h
          refine wp_callVNi (ci := 2) (As := []) dX10_pushes_111 lbX2_standing mnX10_141 imX2_standing seX2_standing vc2 (ct_X2_standing N 0 (Nat.le_refl _) hS (le42 hS) hF47) rfl rfl (Nat.le_trans (by decide) hd) (sk42 hS) (sn42 hS) (Nat.le_of_ble_eq_true rfl) (fun _ => ?_)
          refine wp_iconst (v := (-1)) dX10_pushes_114 (by decide) ?_
          refine wp_ixor dX10_pushes_115 ?_
          refine wp_iand dX10_pushes_116 ?_
          obtain ⟨x48, hx49, h⟩ := nm_inv h
          refine wp_topi hx49 ?_
          obtain ⟨r50, hF51, h⟩ := obi h
          refine wp_callSi (As := [.int x48]) dX10_pushes_117 lbJ6_bitCount_0f7a4 mlX10_194 smJ6_bitCount_0f7a4 (ct_J6_bitCount_0f7a4 0 (Nat.le_refl _) hS  hF51) rfl rfl (Nat.le_trans (by decide) hd) (Nat.le_of_ble_eq_true rfl) (fun _ => ?_)
          refine wp_istore (ls' := [(6, .int r50), (5, .int r39), (4, .int (r34 &&& (((1 : Int32) <<< (a2 &&& 31)) ^^^ (-1)))), (3, .int r30), (0, .ref 0), (1, .int a2), (2, .int a3)]) dX10_pushes_120 (Nat.le_of_ble_eq_true rfl) rfl ?_
          refine wp_aload_n dX10_pushes_122 rfl rfl ?_
          refine wp_getR dX10_pushes_123 flX10_46 rfl (sk0 hS) (sn0 hS) (sr0_10 hS) ?_
          refine wp_aload_n dX10_pushes_126 rfl rfl ?_
          refine wp_getR dX10_pushes_127 flX10_50 rfl (sk0 hS) (sn0 hS) (sr0_11 hS) ?_
          obtain ⟨I52, hF53, h⟩ := obi h
          refine wp_callVNv (ci := 8) (As := [.ref 39]) dX10_pushes_130 lbX8_copyFrom mnX10_185 imX8_copyFrom seX8_copyFrom vc8 (ct_X8_copyFrom N 0 (Nat.le_refl _) hS (st36 hS) (st39 hS) hF53) rfl rfl (Nat.le_trans (by decide) hd) (sk36 hS) (sn36 hS) (Nat.le_of_ble_eq_true rfl) (fun _ => ?_)
          refine wp_iload_n dX10_pushes_133 rfl rfl ?_
          refine wp_if_ne (tgt := 142) dX10_pushes_134 (by decide) (fun hc54 => ?_) (fun hc54 => ?_)
          · have h := ite_f hc54 h
            refine wp_iload dX10_pushes_142 rfl ?_
            exact wp_iret dX10_pushes_144 rfl (by obtain rfl := sji h; exact ⟨rfl, rfl, rfl, rfl⟩)
          · have h := ite_t hc54 h
            refine wp_iload dX10_pushes_137 rfl ?_
            refine wp_goto (tgt := 144) dX10_pushes_139 (by decide) ?_
            exact wp_iret dX10_pushes_144 rfl (by obtain rfl := sji h; exact ⟨rfl, rfl, rfl, rfl⟩)
        · have h := ite_t hc33 h
          refine wp_iconst (v := (-1)) dX10_pushes_38 (by decide) ?_
          exact wp_iret dX10_pushes_39 rfl (by obtain rfl := sji h; exact ⟨rfl, rfl, rfl, rfl⟩)
      · have h := ite_f hc29 h
        exact wp_throwWN (i := 14) dX10_pushes_14 dX10_pushes_17 dX10_pushes_18 dX10_pushes_21 dX10_pushes_24 rfl clX10_177 rfl (Nat.le_trans (by decide) hd) (by obtain rfl := sji h; exact ⟨rfl, rfl, rfl, rfl⟩)
  · exact wp_callVx (ci := 10) (As := [.int a2]) dX10_pushes_2 lbX10_checkTunnel mlX10_246 imX10_checkTunnel seX10_checkTunnel vc10 (ct_X10_checkTunnel 9 (Nat.le_refl _) hS  hF2) rfl rfl (Nat.le_trans (by decide) hd) (sk0 hS) (sn0 hS) (Nat.le_of_ble_eq_true rfl) rfl (by obtain rfl := sji h; exact ⟨rfl, rfl, rfl, rfl⟩)
def mX10_setUp (N : Nat) (a2 : Int32) (I : gI) : Option ((Int32 ⊕ String) × gI) := lbind (mX10_checkTunnel a2 I) (fun _ => ck a2 9 (if (I 37 a2.toNatClampNeg) = 0 then (Option.bind (mX2_bestNow N 36 a2 I) (fun (r8, I9) => if r8 = 0 then (Option.bind (mX10_refuseAct I9) (fun (r17, I18) => some (.inl r17, I18))) else (Option.bind (mX0_keep N 36 I9) (fun I12 => Option.bind (mX2_settle N 36 ((1 : Int32) <<< (a2 &&& 31)) I12) (fun (r14, I15) => some (.inl r14, I15)))))) else (Option.bind (mX10_refuseAct I) (fun (r5, I6) => some (.inl r5, I6))))) (fun E20 => some (.inr E20, I))
set_option maxHeartbeats 4000000 in
set_option maxRecDepth 100000 in
theorem ct_X10_setUp (N : Nat) (d : Nat) (hd : 10 ≤ d) {S : gS} {J : gJ} (hS : Sh S)  {a2 : Int32} {I : gI} {r : (Int32 ⊕ String) × gI} (h : mX10_setUp N a2 I = some r) : Ct yX10_setUp (wsY yX10_setUp cX10_setUp 2 (some .int)) d 1 6 [.ref 0, .int a2] S I J (qE (oI r.1) S r.2 J) := by
  refine Ct.of hF (fun _ _ _ _ _ => trivial) (by decide +kernel) (Nat.le_of_ble_eq_true rfl) ⟨Or.inl (sn0 hS), trivial, trivial⟩ ?_
  show Wp RX10 cX10_setUp 2 (some .int) [] hF d 1 6 0 [(0, .ref 0), (1, .int a2)] [] S I J _
  unfold mX10_setUp at h
  refine wp_aload_n dX10_setUp_0 rfl rfl ?_
  refine wp_iload_n dX10_setUp_1 rfl rfl ?_
  rcases lbi h with ⟨⟨⟩, hF2, h⟩ | ⟨E20, hF2, h⟩
  · refine wp_callVv (ci := 10) (As := [.int a2]) dX10_setUp_2 lbX10_checkTunnel mlX10_246 imX10_checkTunnel seX10_checkTunnel vc10 (ct_X10_checkTunnel 9 (Nat.le_refl _) hS  hF2) rfl rfl (Nat.le_trans (by decide) hd) (sk0 hS) (sn0 hS) (Nat.le_of_ble_eq_true rfl) (fun _ => ?_)
    refine wp_aload_n dX10_setUp_5 rfl rfl ?_
    refine wp_getR dX10_setUp_6 flX10_46 rfl (sk0 hS) (sn0 hS) (sr0_10 hS) ?_
    refine wp_getR dX10_setUp_9 flX10_249 rfl (sk36 hS) (sn36 hS) (sr36_0 hS) ?_
    refine wp_iload_n dX10_setUp_12 rfl rfl ?_
    obtain ⟨hb3, h⟩ := ck_inv h
    refine wp_iald dX10_setUp_13 (sk37 hS) (sn37 hS) hb3 ?_
    refine wp_if_ne (tgt := 28) dX10_setUp_14 (by decide) (fun hc4 => ?_) (fun hc4 => ?_)
    · have h := ite_f hc4 h
      refine wp_aload_n dX10_setUp_28 rfl rfl ?_
      obtain ⟨⟨r5, I6⟩, hF7, h⟩ := obi h
      refine wp_callVi (ci := 10) (As := []) dX10_setUp_29 lbX10_refuseAct mlX10_300 imX10_refuseAct seX10_refuseAct vc10 (ct_X10_refuseAct 0 (Nat.le_refl _) hS  hF7) rfl rfl (Nat.le_trans (by decide) hd) (sk0 hS) (sn0 hS) (Nat.le_of_ble_eq_true rfl) (fun _ => ?_)
      exact wp_iret dX10_setUp_32 rfl (by obtain rfl := sji h; exact ⟨rfl, rfl, rfl, rfl⟩)
    · have h := ite_t hc4 h
      refine wp_aload_n dX10_setUp_17 rfl rfl ?_
      refine wp_getR dX10_setUp_18 flX10_58 rfl (sk0 hS) (sn0 hS) (sr0_12 hS) ?_
      refine wp_iload_n dX10_setUp_21 rfl rfl ?_
      obtain ⟨⟨r8, I9⟩, hF10, h⟩ := obi h
      refine wp_callVNi (ci := 2) (As := [.int a2]) dX10_setUp_22 lbX2_bestNow mnX10_289 imX2_bestNow seX2_bestNow vc2 (ct_X2_bestNow N 4 (Nat.le_refl _) hS (le42 hS) hF10) rfl rfl (Nat.le_trans (by decide) hd) (sk42 hS) (sn42 hS) (Nat.le_of_ble_eq_true rfl) (fun _ => ?_)
      refine wp_if_ne (tgt := 33) dX10_setUp_25 (by decide) (fun hc11 => ?_) (fun hc11 => ?_)
      · have h := ite_f hc11 h
        refine wp_aload_n dX10_setUp_33 rfl rfl ?_
        refine wp_getR dX10_setUp_34 flX10_74 rfl (sk0 hS) (sn0 hS) (sr0_14 hS) ?_
        refine wp_aload_n dX10_setUp_37 rfl rfl ?_
        refine wp_getR dX10_setUp_38 flX10_46 rfl (sk0 hS) (sn0 hS) (sr0_10 hS) ?_
        obtain ⟨I12, hF13, h⟩ := obi h
        refine wp_callVNv (ci := 0) (As := [.ref 36]) dX10_setUp_41 lbX0_keep mnX10_303 imX0_keep seX0_keep vc0 (ct_X0_keep N 1 (Nat.le_refl _) hS (st36 hS) hF13) rfl rfl (Nat.le_trans (by decide) hd) (sk51 hS) (sn51 hS) (Nat.le_of_ble_eq_true rfl) (fun _ => ?_)
        refine wp_aload_n dX10_setUp_44 rfl rfl ?_
        refine wp_getR dX10_setUp_45 flX10_58 rfl (sk0 hS) (sn0 hS) (sr0_12 hS) ?_
        refine wp_iconst (v := 1) dX10_setUp_48 (by decide) ?_
        refine wp_iload_n dX10_setUp_49 rfl rfl ?_
        refine wp_ishl dX10_setUp_50 ?_
        obtain ⟨⟨r14, I15⟩, hF16, h⟩ := obi h
        refine wp_callVNi (ci := 2) (As := [.int ((1 : Int32) <<< (a2 &&& 31))]) dX10_setUp_51 lbX2_settle mnX10_191 imX2_settle seX2_settle vc2 (ct_X2_settle N 4 (Nat.le_refl _) hS (le42 hS) hF16) rfl rfl (Nat.le_trans (by decide) hd) (sk42 hS) (sn42 hS) (Nat.le_of_ble_eq_true rfl) (fun _ => ?_)
        exact wp_iret dX10_setUp_54 rfl (by obtain rfl := sji h; exact ⟨rfl, rfl, rfl, rfl⟩)
      · have h := ite_t hc11 h
        refine wp_aload_n dX10_setUp_28 rfl rfl ?_
        obtain ⟨⟨r17, I18⟩, hF19, h⟩ := obi h
        refine wp_callVi (ci := 10) (As := []) dX10_setUp_29 lbX10_refuseAct mlX10_300 imX10_refuseAct seX10_refuseAct vc10 (ct_X10_refuseAct 0 (Nat.le_refl _) hS  hF19) rfl rfl (Nat.le_trans (by decide) hd) (sk0 hS) (sn0 hS) (Nat.le_of_ble_eq_true rfl) (fun _ => ?_)
        exact wp_iret dX10_setUp_32 rfl (by obtain rfl := sji h; exact ⟨rfl, rfl, rfl, rfl⟩)
  · exact wp_callVx (ci := 10) (As := [.int a2]) dX10_setUp_2 lbX10_checkTunnel mlX10_246 imX10_checkTunnel seX10_checkTunnel vc10 (ct_X10_checkTunnel 9 (Nat.le_refl _) hS  hF2) rfl rfl (Nat.le_trans (by decide) hd) (sk0 hS) (sn0 hS) (Nat.le_of_ble_eq_true rfl) rfl (by obtain rfl := sji h; exact ⟨rfl, rfl, rfl, rfl⟩)
def mX10_tearDown (N : Nat) (a2 : Int32) (I : gI) : Option ((Int32 ⊕ String) × gI) := lbind (mX10_checkTunnel a2 I) (fun _ => ck a2 9 (if (I 37 a2.toNatClampNeg) = 0 then (Option.bind (mX10_refuseAct I) (fun (r7, I8) => some (.inl 0, I8))) else (Option.bind (mX0_keep N 36 I) (fun I5 => some (.inl 1, upd2 I5 37 a2.toNatClampNeg 0))))) (fun E10 => some (.inr E10, I))
set_option maxHeartbeats 4000000 in
set_option maxRecDepth 100000 in
theorem ct_X10_tearDown (N : Nat) (d : Nat) (hd : 10 ≤ d) {S : gS} {J : gJ} (hS : Sh S)  {a2 : Int32} {I : gI} {r : (Int32 ⊕ String) × gI} (h : mX10_tearDown N a2 I = some r) : Ct yX10_tearDown (wsY yX10_tearDown cX10_tearDown 2 (some .boolean)) d 1 6 [.ref 0, .int a2] S I J (qE (oI r.1) S r.2 J) := by
  refine Ct.of hF (fun _ _ _ _ _ => trivial) (by decide +kernel) (Nat.le_of_ble_eq_true rfl) ⟨Or.inl (sn0 hS), trivial, trivial⟩ ?_
  show Wp RX10 cX10_tearDown 2 (some .boolean) [] hF d 1 6 0 [(0, .ref 0), (1, .int a2)] [] S I J _
  unfold mX10_tearDown at h
  refine wp_aload_n dX10_tearDown_0 rfl rfl ?_
  refine wp_iload_n dX10_tearDown_1 rfl rfl ?_
  rcases lbi h with ⟨⟨⟩, hF2, h⟩ | ⟨E10, hF2, h⟩
  · refine wp_callVv (ci := 10) (As := [.int a2]) dX10_tearDown_2 lbX10_checkTunnel mlX10_246 imX10_checkTunnel seX10_checkTunnel vc10 (ct_X10_checkTunnel 9 (Nat.le_refl _) hS  hF2) rfl rfl (Nat.le_trans (by decide) hd) (sk0 hS) (sn0 hS) (Nat.le_of_ble_eq_true rfl) (fun _ => ?_)
    refine wp_aload_n dX10_tearDown_5 rfl rfl ?_
    refine wp_getR dX10_tearDown_6 flX10_46 rfl (sk0 hS) (sn0 hS) (sr0_10 hS) ?_
    refine wp_getR dX10_tearDown_9 flX10_249 rfl (sk36 hS) (sn36 hS) (sr36_0 hS) ?_
    refine wp_iload_n dX10_tearDown_12 rfl rfl ?_
    obtain ⟨hb3, h⟩ := ck_inv h
    refine wp_iald dX10_tearDown_13 (sk37 hS) (sn37 hS) hb3 ?_
    refine wp_if_ne (tgt := 24) dX10_tearDown_14 (by decide) (fun hc4 => ?_) (fun hc4 => ?_)
    · have h := ite_f hc4 h
      refine wp_aload_n dX10_tearDown_24 rfl rfl ?_
      refine wp_getR dX10_tearDown_25 flX10_74 rfl (sk0 hS) (sn0 hS) (sr0_14 hS) ?_
      refine wp_aload_n dX10_tearDown_28 rfl rfl ?_
      refine wp_getR dX10_tearDown_29 flX10_46 rfl (sk0 hS) (sn0 hS) (sr0_10 hS) ?_
      obtain ⟨I5, hF6, h⟩ := obi h
      refine wp_callVNv (ci := 0) (As := [.ref 36]) dX10_tearDown_32 lbX0_keep mnX10_303 imX0_keep seX0_keep vc0 (ct_X0_keep N 1 (Nat.le_refl _) hS (st36 hS) hF6) rfl rfl (Nat.le_trans (by decide) hd) (sk51 hS) (sn51 hS) (Nat.le_of_ble_eq_true rfl) (fun _ => ?_)
      refine wp_aload_n dX10_tearDown_35 rfl rfl ?_
      refine wp_getR dX10_tearDown_36 flX10_46 rfl (sk0 hS) (sn0 hS) (sr0_10 hS) ?_
      refine wp_getR dX10_tearDown_39 flX10_249 rfl (sk36 hS) (sn36 hS) (sr36_0 hS) ?_
      refine wp_iload_n dX10_tearDown_42 rfl rfl ?_
      refine wp_iconst (v := 0) dX10_tearDown_43 (by decide) ?_
      refine wp_iast dX10_tearDown_44 (sk37 hS) (sn37 hS) hb3 ?_
      refine wp_iconst (v := 1) dX10_tearDown_45 (by decide) ?_
      exact wp_zret dX10_tearDown_46 rfl (by decide) (by obtain rfl := sji h; exact ⟨rfl, rfl, rfl, rfl⟩)
    · have h := ite_t hc4 h
      refine wp_aload_n dX10_tearDown_17 rfl rfl ?_
      obtain ⟨⟨r7, I8⟩, hF9, h⟩ := obi h
      refine wp_callVi (ci := 10) (As := []) dX10_tearDown_18 lbX10_refuseAct mlX10_300 imX10_refuseAct seX10_refuseAct vc10 (ct_X10_refuseAct 0 (Nat.le_refl _) hS  hF9) rfl rfl (Nat.le_trans (by decide) hd) (sk0 hS) (sn0 hS) (Nat.le_of_ble_eq_true rfl) (fun _ => ?_)
      refine wp_pop dX10_tearDown_21 rfl ?_
      refine wp_iconst (v := 0) dX10_tearDown_22 (by decide) ?_
      exact wp_zret dX10_tearDown_23 rfl (by decide) (by obtain rfl := sji h; exact ⟨rfl, rfl, rfl, rfl⟩)
  · exact wp_callVx (ci := 10) (As := [.int a2]) dX10_tearDown_2 lbX10_checkTunnel mlX10_246 imX10_checkTunnel seX10_checkTunnel vc10 (ct_X10_checkTunnel 9 (Nat.le_refl _) hS  hF2) rfl rfl (Nat.le_trans (by decide) hd) (sk0 hS) (sn0 hS) (Nat.le_of_ble_eq_true rfl) rfl (by obtain rfl := sji h; exact ⟨rfl, rfl, rfl, rfl⟩)
def mX10_move (N : Nat) (a2 : Int32) (I : gI) : Option ((Int32 ⊕ String) × gI) := lbind (mX10_checkTunnel a2 I) (fun _ => ck a2 9 (if (I 37 a2.toNatClampNeg) = 0 then (Option.bind (mX10_refuseAct I) (fun (r5, I6) => some (.inl r5, I6))) else (Option.bind (mX2_bestNow N 36 a2 I) (fun (r8, I9) => if r8 = (I 37 a2.toNatClampNeg) then (Option.bind (mX10_refuseAct I9) (fun (r17, I18) => some (.inl r17, I18))) else (Option.bind (mX0_keep N 36 I9) (fun I12 => Option.bind (mX2_settle N 36 ((1 : Int32) <<< (a2 &&& 31)) I12) (fun (r14, I15) => some (.inl r14, I15)))))))) (fun E20 => some (.inr E20, I))
set_option maxHeartbeats 4000000 in
set_option maxRecDepth 100000 in
theorem ct_X10_move (N : Nat) (d : Nat) (hd : 10 ≤ d) {S : gS} {J : gJ} (hS : Sh S)  {a2 : Int32} {I : gI} {r : (Int32 ⊕ String) × gI} (h : mX10_move N a2 I = some r) : Ct yX10_move (wsY yX10_move cX10_move 3 (some .int)) d 1 6 [.ref 0, .int a2] S I J (qE (oI r.1) S r.2 J) := by
  refine Ct.of hF (fun _ _ _ _ _ => trivial) (by decide +kernel) (Nat.le_of_ble_eq_true rfl) ⟨Or.inl (sn0 hS), trivial, trivial⟩ ?_
  show Wp RX10 cX10_move 3 (some .int) [] hF d 1 6 0 [(0, .ref 0), (1, .int a2)] [] S I J _
  unfold mX10_move at h
  refine wp_aload_n dX10_move_0 rfl rfl ?_
  refine wp_iload_n dX10_move_1 rfl rfl ?_
  rcases lbi h with ⟨⟨⟩, hF2, h⟩ | ⟨E20, hF2, h⟩
  · refine wp_callVv (ci := 10) (As := [.int a2]) dX10_move_2 lbX10_checkTunnel mlX10_246 imX10_checkTunnel seX10_checkTunnel vc10 (ct_X10_checkTunnel 9 (Nat.le_refl _) hS  hF2) rfl rfl (Nat.le_trans (by decide) hd) (sk0 hS) (sn0 hS) (Nat.le_of_ble_eq_true rfl) (fun _ => ?_)
    refine wp_aload_n dX10_move_5 rfl rfl ?_
    refine wp_getR dX10_move_6 flX10_46 rfl (sk0 hS) (sn0 hS) (sr0_10 hS) ?_
    refine wp_getR dX10_move_9 flX10_249 rfl (sk36 hS) (sn36 hS) (sr36_0 hS) ?_
    refine wp_iload_n dX10_move_12 rfl rfl ?_
    obtain ⟨hb3, h⟩ := ck_inv h
    refine wp_iald dX10_move_13 (sk37 hS) (sn37 hS) hb3 ?_
    refine wp_istore_n (ls' := [(2, .int (I 37 a2.toNatClampNeg)), (0, .ref 0), (1, .int a2)]) dX10_move_14 rfl (Nat.le_of_ble_eq_true rfl) rfl ?_
    refine wp_iload_n dX10_move_15 rfl rfl ?_
    refine wp_if_eq (tgt := 31) dX10_move_16 (by decide) (fun hc4 => ?_) (fun hc4 => ?_)
    · have h := ite_t hc4 h
      refine wp_aload_n dX10_move_31 rfl rfl ?_
      obtain ⟨⟨r5, I6⟩, hF7, h⟩ := obi h
      refine wp_callVi (ci := 10) (As := []) dX10_move_32 lbX10_refuseAct mlX10_300 imX10_refuseAct seX10_refuseAct vc10 (ct_X10_refuseAct 0 (Nat.le_refl _) hS  hF7) rfl rfl (Nat.le_trans (by decide) hd) (sk0 hS) (sn0 hS) (Nat.le_of_ble_eq_true rfl) (fun _ => ?_)
      exact wp_iret dX10_move_35 rfl (by obtain rfl := sji h; exact ⟨rfl, rfl, rfl, rfl⟩)
    · have h := ite_f hc4 h
      refine wp_aload_n dX10_move_19 rfl rfl ?_
      refine wp_getR dX10_move_20 flX10_58 rfl (sk0 hS) (sn0 hS) (sr0_12 hS) ?_
      refine wp_iload_n dX10_move_23 rfl rfl ?_
      obtain ⟨⟨r8, I9⟩, hF10, h⟩ := obi h
      refine wp_callVNi (ci := 2) (As := [.int a2]) dX10_move_24 lbX2_bestNow mnX10_289 imX2_bestNow seX2_bestNow vc2 (ct_X2_bestNow N 4 (Nat.le_refl _) hS (le42 hS) hF10) rfl rfl (Nat.le_trans (by decide) hd) (sk42 hS) (sn42 hS) (Nat.le_of_ble_eq_true rfl) (fun _ => ?_)
      refine wp_iload_n dX10_move_27 rfl rfl ?_
      refine wp_icmp_ne (tgt := 36) dX10_move_28 (by decide) (fun hc11 => ?_) (fun hc11 => ?_)
      · have h := ite_f hc11 h
        refine wp_aload_n dX10_move_36 rfl rfl ?_
        refine wp_getR dX10_move_37 flX10_74 rfl (sk0 hS) (sn0 hS) (sr0_14 hS) ?_
        refine wp_aload_n dX10_move_40 rfl rfl ?_
        refine wp_getR dX10_move_41 flX10_46 rfl (sk0 hS) (sn0 hS) (sr0_10 hS) ?_
        obtain ⟨I12, hF13, h⟩ := obi h
        refine wp_callVNv (ci := 0) (As := [.ref 36]) dX10_move_44 lbX0_keep mnX10_303 imX0_keep seX0_keep vc0 (ct_X0_keep N 1 (Nat.le_refl _) hS (st36 hS) hF13) rfl rfl (Nat.le_trans (by decide) hd) (sk51 hS) (sn51 hS) (Nat.le_of_ble_eq_true rfl) (fun _ => ?_)
        refine wp_aload_n dX10_move_47 rfl rfl ?_
        refine wp_getR dX10_move_48 flX10_58 rfl (sk0 hS) (sn0 hS) (sr0_12 hS) ?_
        refine wp_iconst (v := 1) dX10_move_51 (by decide) ?_
        refine wp_iload_n dX10_move_52 rfl rfl ?_
        refine wp_ishl dX10_move_53 ?_
        obtain ⟨⟨r14, I15⟩, hF16, h⟩ := obi h
        refine wp_callVNi (ci := 2) (As := [.int ((1 : Int32) <<< (a2 &&& 31))]) dX10_move_54 lbX2_settle mnX10_191 imX2_settle seX2_settle vc2 (ct_X2_settle N 4 (Nat.le_refl _) hS (le42 hS) hF16) rfl rfl (Nat.le_trans (by decide) hd) (sk42 hS) (sn42 hS) (Nat.le_of_ble_eq_true rfl) (fun _ => ?_)
        exact wp_iret dX10_move_57 rfl (by obtain rfl := sji h; exact ⟨rfl, rfl, rfl, rfl⟩)
      · have h := ite_t hc11 h
        refine wp_aload_n dX10_move_31 rfl rfl ?_
        obtain ⟨⟨r17, I18⟩, hF19, h⟩ := obi h
        refine wp_callVi (ci := 10) (As := []) dX10_move_32 lbX10_refuseAct mlX10_300 imX10_refuseAct seX10_refuseAct vc10 (ct_X10_refuseAct 0 (Nat.le_refl _) hS  hF19) rfl rfl (Nat.le_trans (by decide) hd) (sk0 hS) (sn0 hS) (Nat.le_of_ble_eq_true rfl) (fun _ => ?_)
        exact wp_iret dX10_move_35 rfl (by obtain rfl := sji h; exact ⟨rfl, rfl, rfl, rfl⟩)
  · exact wp_callVx (ci := 10) (As := [.int a2]) dX10_move_2 lbX10_checkTunnel mlX10_246 imX10_checkTunnel seX10_checkTunnel vc10 (ct_X10_checkTunnel 9 (Nat.le_refl _) hS  hF2) rfl rfl (Nat.le_trans (by decide) hd) (sk0 hS) (sn0 hS) (Nat.le_of_ble_eq_true rfl) rfl (by obtain rfl := sji h; exact ⟨rfl, rfl, rfl, rfl⟩)
def mX10_resize (N : Nat) (a2 : Int32) (a3 : Int32) (I : gI) : Option ((Int32 ⊕ String) × gI) := lbind (mX10_checkTunnel a2 I) (fun _ => ck a2 9 (Option.bind (mX10_isAmount a3 I) (fun r4 => if r4 = 0 then (Option.bind (mX10_refuseAct I) (fun (r7, I8) => some (.inl r7, I8))) else (if a3 = (I 38 a2.toNatClampNeg) then (Option.bind (mX10_refuseAct I) (fun (r34, I35) => some (.inl r34, I35))) else (Option.bind (if (I 37 a2.toNatClampNeg) = 0 then (some 0) else (some 1) : Option (Int32)) (fun x11 => if x11 = 0 then (Option.bind (mX0_keep N 36 I) (fun I14 => if x11 = 0 then (some (.inl (I 38 a2.toNatClampNeg), upd2 I14 38 a2.toNatClampNeg a3)) else (Option.bind (mX2_settle N 36 ((1 : Int32) <<< (a2 &&& 31)) (upd2 I14 38 a2.toNatClampNeg a3)) (fun (r17, I18) => some (.inl (I 38 a2.toNatClampNeg), I18))))) else (Option.bind (mX2_bestWay N 36 a2 a3 (I 11 a2.toNatClampNeg) I) (fun (r20, I21) => if r20 = 0 then (Option.bind (mX10_refuseAct I21) (fun (r30, I31) => some (.inl r30, I31))) else (Option.bind (mX0_keep N 36 I21) (fun I24 => if x11 = 0 then (some (.inl (I 38 a2.toNatClampNeg), upd2 I24 38 a2.toNatClampNeg a3)) else (Option.bind (mX2_settle N 36 ((1 : Int32) <<< (a2 &&& 31)) (upd2 I24 38 a2.toNatClampNeg a3)) (fun (r27, I28) => some (.inl (I 38 a2.toNatClampNeg), I28))))))))))))) (fun E37 => some (.inr E37, I))
set_option maxHeartbeats 4000000 in
set_option maxRecDepth 100000 in
theorem ct_X10_resize (N : Nat) (d : Nat) (hd : 10 ≤ d) {S : gS} {J : gJ} (hS : Sh S)  {a2 : Int32} {a3 : Int32} {I : gI} {r : (Int32 ⊕ String) × gI} (h : mX10_resize N a2 a3 I = some r) : Ct yX10_resize (wsY yX10_resize cX10_resize 5 (some .int)) d 1 6 [.ref 0, .int a2, .int a3] S I J (qE (oI r.1) S r.2 J) := by
  refine Ct.of hF (fun _ _ _ _ _ => trivial) (by decide +kernel) (Nat.le_of_ble_eq_true rfl) ⟨Or.inl (sn0 hS), trivial, trivial, trivial⟩ ?_
  show Wp RX10 cX10_resize 5 (some .int) [] hF d 1 6 0 [(0, .ref 0), (1, .int a2), (2, .int a3)] [] S I J _
  unfold mX10_resize at h
  refine wp_aload_n dX10_resize_0 rfl rfl ?_
  refine wp_iload_n dX10_resize_1 rfl rfl ?_
  rcases lbi h with ⟨⟨⟩, hF2, h⟩ | ⟨E37, hF2, h⟩
  · refine wp_callVv (ci := 10) (As := [.int a2]) dX10_resize_2 lbX10_checkTunnel mlX10_246 imX10_checkTunnel seX10_checkTunnel vc10 (ct_X10_checkTunnel 9 (Nat.le_refl _) hS  hF2) rfl rfl (Nat.le_trans (by decide) hd) (sk0 hS) (sn0 hS) (Nat.le_of_ble_eq_true rfl) (fun _ => ?_)
    refine wp_aload_n dX10_resize_5 rfl rfl ?_
    refine wp_getR dX10_resize_6 flX10_46 rfl (sk0 hS) (sn0 hS) (sr0_10 hS) ?_
    refine wp_getR dX10_resize_9 flX10_258 rfl (sk36 hS) (sn36 hS) (sr36_1 hS) ?_
    refine wp_iload_n dX10_resize_12 rfl rfl ?_
    obtain ⟨hb3, h⟩ := ck_inv h
    refine wp_iald dX10_resize_13 (sk38 hS) (sn38 hS) hb3 ?_
    refine wp_istore_n (ls' := [(3, .int (I 38 a2.toNatClampNeg)), (0, .ref 0), (1, .int a2), (2, .int a3)]) dX10_resize_14 rfl (Nat.le_of_ble_eq_true rfl) rfl ?_
    refine wp_iload_n dX10_resize_15 rfl rfl ?_
    obtain ⟨r4, hF5, h⟩ := obi h
    refine wp_callSi (As := [.int a3]) dX10_resize_16 lbX10_isAmount mlX10_306 smX10_isAmount (ct_X10_isAmount 0 (Nat.le_refl _) hS  hF5) rfl rfl (Nat.le_trans (by decide) hd) (Nat.le_of_ble_eq_true rfl) (fun _ => ?_)
    refine wp_if_eq (tgt := 27) dX10_resize_19 (by decide) (fun hc6 => ?_) (fun hc6 => ?_)
    · have h := ite_t hc6 h
      refine wp_aload_n dX10_resize_27 rfl rfl ?_
      obtain ⟨⟨r7, I8⟩, hF9, h⟩ := obi h
      refine wp_callVi (ci := 10) (As := []) dX10_resize_28 lbX10_refuseAct mlX10_300 imX10_refuseAct seX10_refuseAct vc10 (ct_X10_refuseAct 0 (Nat.le_refl _) hS  hF9) rfl rfl (Nat.le_trans (by decide) hd) (sk0 hS) (sn0 hS) (Nat.le_of_ble_eq_true rfl) (fun _ => ?_)
      exact wp_iret dX10_resize_31 rfl (by obtain rfl := sji h; exact ⟨rfl, rfl, rfl, rfl⟩)
    · have h := ite_f hc6 h
      refine wp_iload_n dX10_resize_22 rfl rfl ?_
      refine wp_iload_n dX10_resize_23 rfl rfl ?_
      refine wp_icmp_ne (tgt := 32) dX10_resize_24 (by decide) (fun hc10 => ?_) (fun hc10 => ?_)
      · have h := ite_f hc10 h
        refine wp_aload_n dX10_resize_32 rfl rfl ?_
        refine wp_getR dX10_resize_33 flX10_46 rfl (sk0 hS) (sn0 hS) (sr0_10 hS) ?_
        refine wp_getR dX10_resize_36 flX10_249 rfl (sk36 hS) (sn36 hS) (sr36_0 hS) ?_
        refine wp_iload_n dX10_resize_39 rfl rfl ?_
        refine wp_iald dX10_resize_40 (sk37 hS) (sn37 hS) hb3 ?_
        obtain ⟨x11, hh33, h⟩ := obi h
        have hJ : Wp RX10 cX10_resize 5 (some .int) [] hF d 0 0 49 [(0, .ref 0), (1, .int a2), (2, .int a3), (3, .int (I 38 a2.toNatClampNeg))] [.int x11] S I J (qE (oI r.1) S r.2 J) := by
          refine wp_istore (ls' := [(4, .int x11), (0, .ref 0), (1, .int a2), (2, .int a3), (3, .int (I 38 a2.toNatClampNeg))]) dX10_resize_49 (Nat.le_of_ble_eq_true rfl) rfl ?_
          refine wp_iload dX10_resize_51 rfl ?_
          refine wp_if_eq (tgt := 82) dX10_resize_53 (by decide) (fun hc13 => ?_) (fun hc13 => ?_)
          · have h := ite_t hc13 h
            refine wp_aload_n dX10_resize_82 rfl rfl ?_
            refine wp_getR dX10_resize_83 flX10_74 rfl (sk0 hS) (sn0 hS) (sr0_14 hS) ?_
            refine wp_aload_n dX10_resize_86 rfl rfl ?_
            refine wp_getR dX10_resize_87 flX10_46 rfl (sk0 hS) (sn0 hS) (sr0_10 hS) ?_
            obtain ⟨I14, hF15, h⟩ := obi h
            refine wp_callVNv (ci := 0) (As := [.ref 36]) dX10_resize_90 lbX0_keep mnX10_303 imX0_keep seX0_keep vc0 (ct_X0_keep N 1 (Nat.le_refl _) hS (st36 hS) hF15) rfl rfl (Nat.le_trans (by decide) hd) (sk51 hS) (sn51 hS) (Nat.le_of_ble_eq_true rfl) (fun _ => ?_)
            refine wp_aload_n dX10_resize_93 rfl rfl ?_
            refine wp_getR dX10_resize_94 flX10_46 rfl (sk0 hS) (sn0 hS) (sr0_10 hS) ?_
            refine wp_getR dX10_resize_97 flX10_258 rfl (sk36 hS) (sn36 hS) (sr36_1 hS) ?_
            refine wp_iload_n dX10_resize_100 rfl rfl ?_
            refine wp_iload_n dX10_resize_101 rfl rfl ?_
            refine wp_iast dX10_resize_102 (sk38 hS) (sn38 hS) hb3 ?_
            refine wp_iload dX10_resize_103 rfl ?_
            refine wp_if_eq (tgt := 119) dX10_resize_105 (by decide) (fun hc16 => ?_) (fun hc16 => ?_)
            · have h := ite_t hc16 h
              refine wp_iload_n dX10_resize_119 rfl rfl ?_
              exact wp_iret dX10_resize_120 rfl (by obtain rfl := sji h; exact ⟨rfl, rfl, rfl, rfl⟩)
            · have h := ite_f hc16 h
              refine wp_aload_n dX10_resize_108 rfl rfl ?_
              refine wp_getR dX10_resize_109 flX10_58 rfl (sk0 hS) (sn0 hS) (sr0_12 hS) ?_
              refine wp_iconst (v := 1) dX10_resize_112 (by decide) ?_
              refine wp_iload_n dX10_resize_113 rfl rfl ?_
              refine wp_ishl dX10_resize_114 ?_
              obtain ⟨⟨r17, I18⟩, hF19, h⟩ := obi h
              refine wp_callVNi (ci := 2) (As := [.int ((1 : Int32) <<< (a2 &&& 31))]) dX10_resize_115 lbX2_settle mnX10_191 imX2_settle seX2_settle vc2 (ct_X2_settle N 4 (Nat.le_refl _) hS (le42 hS) hF19) rfl rfl (Nat.le_trans (by decide) hd) (sk42 hS) (sn42 hS) (Nat.le_of_ble_eq_true rfl) (fun _ => ?_)
              refine wp_pop dX10_resize_118 rfl ?_
              refine wp_iload_n dX10_resize_119 rfl rfl ?_
              exact wp_iret dX10_resize_120 rfl (by obtain rfl := sji h; exact ⟨rfl, rfl, rfl, rfl⟩)
          · have h := ite_f hc13 h
            refine wp_aload_n dX10_resize_56 rfl rfl ?_
            refine wp_getR dX10_resize_57 flX10_58 rfl (sk0 hS) (sn0 hS) (sr0_12 hS) ?_
            refine wp_iload_n dX10_resize_60 rfl rfl ?_
            refine wp_iload_n dX10_resize_61 rfl rfl ?_
            refine wp_aload_n dX10_resize_62 rfl rfl ?_
            refine wp_getR dX10_resize_63 flX10_20 rfl (sk0 hS) (sn0 hS) (sr0_6 hS) ?_
            refine wp_getR dX10_resize_66 flX10_261 rfl (sk2 hS) (sn2 hS) (sr2_11 hS) ?_
            refine wp_iload_n dX10_resize_69 rfl rfl ?_
            refine wp_iald dX10_resize_70 (sk11 hS) (sn11 hS) hb3 ?_
            obtain ⟨⟨r20, I21⟩, hF22, h⟩ := obi h
            refine wp_callVNi (ci := 2) (As := [.int a2, .int a3, .int (I 11 a2.toNatClampNeg)]) dX10_resize_71 lbX2_bestWay mnX10_309 imX2_bestWay seX2_bestWay vc2 (ct_X2_bestWay N 3 (Nat.le_refl _) hS (le42 hS) hF22) rfl rfl (Nat.le_trans (by decide) hd) (sk42 hS) (sn42 hS) (Nat.le_of_ble_eq_true rfl) (fun _ => ?_)
            refine wp_if_ne (tgt := 82) dX10_resize_74 (by decide) (fun hc23 => ?_) (fun hc23 => ?_)
            · have h := ite_f hc23 h
              refine wp_aload_n dX10_resize_82 rfl rfl ?_
              refine wp_getR dX10_resize_83 flX10_74 rfl (sk0 hS) (sn0 hS) (sr0_14 hS) ?_
              refine wp_aload_n dX10_resize_86 rfl rfl ?_
              refine wp_getR dX10_resize_87 flX10_46 rfl (sk0 hS) (sn0 hS) (sr0_10 hS) ?_
              obtain ⟨I24, hF25, h⟩ := obi h
              refine wp_callVNv (ci := 0) (As := [.ref 36]) dX10_resize_90 lbX0_keep mnX10_303 imX0_keep seX0_keep vc0 (ct_X0_keep N 1 (Nat.le_refl _) hS (st36 hS) hF25) rfl rfl (Nat.le_trans (by decide) hd) (sk51 hS) (sn51 hS) (Nat.le_of_ble_eq_true rfl) (fun _ => ?_)
              refine wp_aload_n dX10_resize_93 rfl rfl ?_
              refine wp_getR dX10_resize_94 flX10_46 rfl (sk0 hS) (sn0 hS) (sr0_10 hS) ?_
              refine wp_getR dX10_resize_97 flX10_258 rfl (sk36 hS) (sn36 hS) (sr36_1 hS) ?_
              refine wp_iload_n dX10_resize_100 rfl rfl ?_
              refine wp_iload_n dX10_resize_101 rfl rfl ?_
              refine wp_iast dX10_resize_102 (sk38 hS) (sn38 hS) hb3 ?_
              refine wp_iload dX10_resize_103 rfl ?_
              refine wp_if_eq (tgt := 119) dX10_resize_105 (by decide) (fun hc26 => ?_) (fun hc26 => ?_)
              · have h := ite_t hc26 h
                refine wp_iload_n dX10_resize_119 rfl rfl ?_
                exact wp_iret dX10_resize_120 rfl (by obtain rfl := sji h; exact ⟨rfl, rfl, rfl, rfl⟩)
              · have h := ite_f hc26 h
                refine wp_aload_n dX10_resize_108 rfl rfl ?_
                refine wp_getR dX10_resize_109 flX10_58 rfl (sk0 hS) (sn0 hS) (sr0_12 hS) ?_
                refine wp_iconst (v := 1) dX10_resize_112 (by decide) ?_
                refine wp_iload_n dX10_resize_113 rfl rfl ?_
                refine wp_ishl dX10_resize_114 ?_
                obtain ⟨⟨r27, I28⟩, hF29, h⟩ := obi h
                refine wp_callVNi (ci := 2) (As := [.int ((1 : Int32) <<< (a2 &&& 31))]) dX10_resize_115 lbX2_settle mnX10_191 imX2_settle seX2_settle vc2 (ct_X2_settle N 4 (Nat.le_refl _) hS (le42 hS) hF29) rfl rfl (Nat.le_trans (by decide) hd) (sk42 hS) (sn42 hS) (Nat.le_of_ble_eq_true rfl) (fun _ => ?_)
                refine wp_pop dX10_resize_118 rfl ?_
                refine wp_iload_n dX10_resize_119 rfl rfl ?_
                exact wp_iret dX10_resize_120 rfl (by obtain rfl := sji h; exact ⟨rfl, rfl, rfl, rfl⟩)
            · have h := ite_t hc23 h
              refine wp_aload_n dX10_resize_77 rfl rfl ?_
              obtain ⟨⟨r30, I31⟩, hF32, h⟩ := obi h
              refine wp_callVi (ci := 10) (As := []) dX10_resize_78 lbX10_refuseAct mlX10_300 imX10_refuseAct seX10_refuseAct vc10 (ct_X10_refuseAct 0 (Nat.le_refl _) hS  hF32) rfl rfl (Nat.le_trans (by decide) hd) (sk0 hS) (sn0 hS) (Nat.le_of_ble_eq_true rfl) (fun _ => ?_)
              exact wp_iret dX10_resize_81 rfl (by obtain rfl := sji h; exact ⟨rfl, rfl, rfl, rfl⟩)
        clear h
        have h := hh33
        clear hh33
        refine wp_if_eq (tgt := 48) dX10_resize_41 (by decide) (fun hc12 => ?_) (fun hc12 => ?_)
        · have h := ite_t hc12 h
          refine wp_iconst (v := 0) dX10_resize_48 (by decide) ?_
          cases h
          exact wp_pick (ks := [1, 2, 3, 0]) rfl hJ
        · have h := ite_f hc12 h
          refine wp_iconst (v := 1) dX10_resize_44 (by decide) ?_
          refine wp_goto (tgt := 49) dX10_resize_45 (by decide) ?_
          cases h
          exact wp_pick (ks := [1, 2, 3, 0]) rfl hJ
      · have h := ite_t hc10 h
        refine wp_aload_n dX10_resize_27 rfl rfl ?_
        obtain ⟨⟨r34, I35⟩, hF36, h⟩ := obi h
        refine wp_callVi (ci := 10) (As := []) dX10_resize_28 lbX10_refuseAct mlX10_300 imX10_refuseAct seX10_refuseAct vc10 (ct_X10_refuseAct 0 (Nat.le_refl _) hS  hF36) rfl rfl (Nat.le_trans (by decide) hd) (sk0 hS) (sn0 hS) (Nat.le_of_ble_eq_true rfl) (fun _ => ?_)
        exact wp_iret dX10_resize_31 rfl (by obtain rfl := sji h; exact ⟨rfl, rfl, rfl, rfl⟩)
  · exact wp_callVx (ci := 10) (As := [.int a2]) dX10_resize_2 lbX10_checkTunnel mlX10_246 imX10_checkTunnel seX10_checkTunnel vc10 (ct_X10_checkTunnel 9 (Nat.le_refl _) hS  hF2) rfl rfl (Nat.le_trans (by decide) hd) (sk0 hS) (sn0 hS) (Nat.le_of_ble_eq_true rfl) rfl (by obtain rfl := sji h; exact ⟨rfl, rfl, rfl, rfl⟩)
def mX10_fail (N : Nat) (a2 : Int32) (I : gI) : Option ((Int32 ⊕ String) × gI) := lbind (mX10_checkLink a2 I) (fun _ => if ((ushr (I 36 2) a2) &&& 1) = 0 then (Option.bind (mX10_refuseAct I) (fun (r18, I19) => some (.inl r18, I19))) else (Option.bind (mX0_keep N 36 I) (fun I4 => Option.bind (mX2_standing N 36 I4) (fun r6 => Option.bind (mX2_breakLink N 36 a2 I4) (fun (r8, I9) => Option.bind (mX2_settle N 36 r8 I9) (fun (r11, I12) => Option.bind (mX2_standing N 36 I12) (fun r14 => Option.bind (mJ6_bitCount_0f7a4 (r6 &&& (r14 ^^^ (-1))) I12) (fun r16 => some (.inl r16, I12))))))))) (fun E21 => some (.inr E21, I))
set_option maxHeartbeats 4000000 in
set_option maxRecDepth 100000 in
theorem ct_X10_fail (N : Nat) (d : Nat) (hd : 10 ≤ d) {S : gS} {J : gJ} (hS : Sh S)  {a2 : Int32} {I : gI} {r : (Int32 ⊕ String) × gI} (h : mX10_fail N a2 I = some r) : Ct yX10_fail (wsY yX10_fail cX10_fail 3 (some .int)) d 1 6 [.ref 0, .int a2] S I J (qE (oI r.1) S r.2 J) := by
  refine Ct.of hF (fun _ _ _ _ _ => trivial) (by decide +kernel) (Nat.le_of_ble_eq_true rfl) ⟨Or.inl (sn0 hS), trivial, trivial⟩ ?_
  show Wp RX10 cX10_fail 3 (some .int) [] hF d 1 6 0 [(0, .ref 0), (1, .int a2)] [] S I J _
  unfold mX10_fail at h
  refine wp_aload_n dX10_fail_0 rfl rfl ?_
  refine wp_iload_n dX10_fail_1 rfl rfl ?_
  rcases lbi h with ⟨⟨⟩, hF2, h⟩ | ⟨E21, hF2, h⟩
  · refine wp_callVv (ci := 10) (As := [.int a2]) dX10_fail_2 lbX10_checkLink mlX10_215 imX10_checkLink seX10_checkLink vc10 (ct_X10_checkLink 9 (Nat.le_refl _) hS  hF2) rfl rfl (Nat.le_trans (by decide) hd) (sk0 hS) (sn0 hS) (Nat.le_of_ble_eq_true rfl) (fun _ => ?_)
    refine wp_aload_n dX10_fail_5 rfl rfl ?_
    refine wp_getR dX10_fail_6 flX10_46 rfl (sk0 hS) (sn0 hS) (sr0_10 hS) ?_
    refine wp_getI dX10_fail_9 flX10_145 rfl (sk36 hS) (sn36 hS) ?_
    refine wp_iload_n dX10_fail_12 rfl rfl ?_
    refine wp_iushr dX10_fail_13 ?_
    refine wp_iconst (v := 1) dX10_fail_14 (by decide) ?_
    refine wp_iand dX10_fail_15 ?_
    refine wp_if_ne (tgt := 24) dX10_fail_16 (by decide) (fun hc3 => ?_) (fun hc3 => ?_)
    · have h := ite_f hc3 h
      refine wp_aload_n dX10_fail_24 rfl rfl ?_
      refine wp_getR dX10_fail_25 flX10_74 rfl (sk0 hS) (sn0 hS) (sr0_14 hS) ?_
      refine wp_aload_n dX10_fail_28 rfl rfl ?_
      refine wp_getR dX10_fail_29 flX10_46 rfl (sk0 hS) (sn0 hS) (sr0_10 hS) ?_
      obtain ⟨I4, hF5, h⟩ := obi h
      refine wp_callVNv (ci := 0) (As := [.ref 36]) dX10_fail_32 lbX0_keep mnX10_303 imX0_keep seX0_keep vc0 (ct_X0_keep N 1 (Nat.le_refl _) hS (st36 hS) hF5) rfl rfl (Nat.le_trans (by decide) hd) (sk51 hS) (sn51 hS) (Nat.le_of_ble_eq_true rfl) (fun _ => ?_)
      refine wp_aload_n dX10_fail_35 rfl rfl ?_
      refine wp_getR dX10_fail_36 flX10_58 rfl (sk0 hS) (sn0 hS) (sr0_12 hS) ?_
      obtain ⟨r6, hF7, h⟩ := obi h
      refine wp_callVNi (ci := 2) (As := []) dX10_fail_39 lbX2_standing mnX10_141 imX2_standing seX2_standing vc2 (ct_X2_standing N 0 (Nat.le_refl _) hS (le42 hS) hF7) rfl rfl (Nat.le_trans (by decide) hd) (sk42 hS) (sn42 hS) (Nat.le_of_ble_eq_true rfl) (fun _ => ?_)
      refine wp_istore_n (ls' := [(2, .int r6), (0, .ref 0), (1, .int a2)]) dX10_fail_42 rfl (Nat.le_of_ble_eq_true rfl) rfl ?_
      refine wp_aload_n dX10_fail_43 rfl rfl ?_
      refine wp_getR dX10_fail_44 flX10_58 rfl (sk0 hS) (sn0 hS) (sr0_12 hS) ?_
      refine wp_aload_n dX10_fail_47 rfl rfl ?_
      refine wp_getR dX10_fail_48 flX10_58 rfl (sk0 hS) (sn0 hS) (sr0_12 hS) ?_
      refine wp_iload_n dX10_fail_51 rfl rfl ?_
      obtain ⟨⟨r8, I9⟩, hF10, h⟩ := obi h
      refine wp_callVNi (ci := 2) (As := [.int a2]) dX10_fail_52 lbX2_breakLink mnX10_188 imX2_breakLink seX2_breakLink vc2 (ct_X2_breakLink N 1 (Nat.le_refl _) hS (le42 hS) hF10) rfl rfl (Nat.le_trans (by decide) hd) (sk42 hS) (sn42 hS) (Nat.le_of_ble_eq_true rfl) (fun _ => ?_)
      obtain ⟨⟨r11, I12⟩, hF13, h⟩ := obi h
      refine wp_callVNi (ci := 2) (As := [.int r8]) dX10_fail_55 lbX2_settle mnX10_191 imX2_settle seX2_settle vc2 (ct_X2_settle N 4 (Nat.le_refl _) hS (le42 hS) hF13) rfl rfl (Nat.le_trans (by decide) hd) (sk42 hS) (sn42 hS) (Nat.le_of_ble_eq_true rfl) (fun _ => ?_)
      refine wp_pop dX10_fail_58 rfl ?_
      refine wp_iload_n dX10_fail_59 rfl rfl ?_
      refine wp_aload_n dX10_fail_60 rfl rfl ?_
      refine wp_getR dX10_fail_61 flX10_58 rfl (sk0 hS) (sn0 hS) (sr0_12 hS) ?_
      obtain ⟨r14, hF15, h⟩ := obi h
      refine wp_callVNi (ci := 2) (As := []) dX10_fail_64 lbX2_standing mnX10_141 imX2_standing seX2_standing vc2 (ct_X2_standing N 0 (Nat.le_refl _) hS (le42 hS) hF15) rfl rfl (Nat.le_trans (by decide) hd) (sk42 hS) (sn42 hS) (Nat.le_of_ble_eq_true rfl) (fun _ => ?_)
      refine wp_iconst (v := (-1)) dX10_fail_67 (by decide) ?_
      refine wp_ixor dX10_fail_68 ?_
      refine wp_iand dX10_fail_69 ?_
      obtain ⟨r16, hF17, h⟩ := obi h
      refine wp_callSi (As := [.int (r6 &&& (r14 ^^^ (-1)))]) dX10_fail_70 lbJ6_bitCount_0f7a4 mlX10_194 smJ6_bitCount_0f7a4 (ct_J6_bitCount_0f7a4 0 (Nat.le_refl _) hS  hF17) rfl rfl (Nat.le_trans (by decide) hd) (Nat.le_of_ble_eq_true rfl) (fun _ => ?_)
      exact wp_iret dX10_fail_73 rfl (by obtain rfl := sji h; exact ⟨rfl, rfl, rfl, rfl⟩)
    · have h := ite_t hc3 h
      refine wp_aload_n dX10_fail_19 rfl rfl ?_
      obtain ⟨⟨r18, I19⟩, hF20, h⟩ := obi h
      refine wp_callVi (ci := 10) (As := []) dX10_fail_20 lbX10_refuseAct mlX10_300 imX10_refuseAct seX10_refuseAct vc10 (ct_X10_refuseAct 0 (Nat.le_refl _) hS  hF20) rfl rfl (Nat.le_trans (by decide) hd) (sk0 hS) (sn0 hS) (Nat.le_of_ble_eq_true rfl) (fun _ => ?_)
      exact wp_iret dX10_fail_23 rfl (by obtain rfl := sji h; exact ⟨rfl, rfl, rfl, rfl⟩)
  · exact wp_callVx (ci := 10) (As := [.int a2]) dX10_fail_2 lbX10_checkLink mlX10_215 imX10_checkLink seX10_checkLink vc10 (ct_X10_checkLink 9 (Nat.le_refl _) hS  hF2) rfl rfl (Nat.le_trans (by decide) hd) (sk0 hS) (sn0 hS) (Nat.le_of_ble_eq_true rfl) rfl (by obtain rfl := sji h; exact ⟨rfl, rfl, rfl, rfl⟩)
def mX10_mend (N : Nat) (a2 : Int32) (I : gI) : Option ((Int32 ⊕ String) × gI) := lbind (mX10_checkLink a2 I) (fun _ => if ((ushr (I 36 2) a2) &&& 1) = 0 then (Option.bind (mX0_keep N 36 I) (fun I4 => some (.inl 1, upd2 I4 36 2 ((I4 36 2) ||| ((1 : Int32) <<< (a2 &&& 31)))))) else (Option.bind (mX10_refuseAct I) (fun (r6, I7) => some (.inl 0, I7)))) (fun E9 => some (.inr E9, I))
set_option maxHeartbeats 4000000 in
set_option maxRecDepth 100000 in
theorem ct_X10_mend (N : Nat) (d : Nat) (hd : 10 ≤ d) {S : gS} {J : gJ} (hS : Sh S)  {a2 : Int32} {I : gI} {r : (Int32 ⊕ String) × gI} (h : mX10_mend N a2 I = some r) : Ct yX10_mend (wsY yX10_mend cX10_mend 2 (some .boolean)) d 1 6 [.ref 0, .int a2] S I J (qE (oI r.1) S r.2 J) := by
  refine Ct.of hF (fun _ _ _ _ _ => trivial) (by decide +kernel) (Nat.le_of_ble_eq_true rfl) ⟨Or.inl (sn0 hS), trivial, trivial⟩ ?_
  show Wp RX10 cX10_mend 2 (some .boolean) [] hF d 1 6 0 [(0, .ref 0), (1, .int a2)] [] S I J _
  unfold mX10_mend at h
  refine wp_aload_n dX10_mend_0 rfl rfl ?_
  refine wp_iload_n dX10_mend_1 rfl rfl ?_
  rcases lbi h with ⟨⟨⟩, hF2, h⟩ | ⟨E9, hF2, h⟩
  · refine wp_callVv (ci := 10) (As := [.int a2]) dX10_mend_2 lbX10_checkLink mlX10_215 imX10_checkLink seX10_checkLink vc10 (ct_X10_checkLink 9 (Nat.le_refl _) hS  hF2) rfl rfl (Nat.le_trans (by decide) hd) (sk0 hS) (sn0 hS) (Nat.le_of_ble_eq_true rfl) (fun _ => ?_)
    refine wp_aload_n dX10_mend_5 rfl rfl ?_
    refine wp_getR dX10_mend_6 flX10_46 rfl (sk0 hS) (sn0 hS) (sr0_10 hS) ?_
    refine wp_getI dX10_mend_9 flX10_145 rfl (sk36 hS) (sn36 hS) ?_
    refine wp_iload_n dX10_mend_12 rfl rfl ?_
    refine wp_iushr dX10_mend_13 ?_
    refine wp_iconst (v := 1) dX10_mend_14 (by decide) ?_
    refine wp_iand dX10_mend_15 ?_
    refine wp_if_eq (tgt := 26) dX10_mend_16 (by decide) (fun hc3 => ?_) (fun hc3 => ?_)
    · have h := ite_t hc3 h
      refine wp_aload_n dX10_mend_26 rfl rfl ?_
      refine wp_getR dX10_mend_27 flX10_74 rfl (sk0 hS) (sn0 hS) (sr0_14 hS) ?_
      refine wp_aload_n dX10_mend_30 rfl rfl ?_
      refine wp_getR dX10_mend_31 flX10_46 rfl (sk0 hS) (sn0 hS) (sr0_10 hS) ?_
      obtain ⟨I4, hF5, h⟩ := obi h
      refine wp_callVNv (ci := 0) (As := [.ref 36]) dX10_mend_34 lbX0_keep mnX10_303 imX0_keep seX0_keep vc0 (ct_X0_keep N 1 (Nat.le_refl _) hS (st36 hS) hF5) rfl rfl (Nat.le_trans (by decide) hd) (sk51 hS) (sn51 hS) (Nat.le_of_ble_eq_true rfl) (fun _ => ?_)
      refine wp_aload_n dX10_mend_37 rfl rfl ?_
      refine wp_getR dX10_mend_38 flX10_46 rfl (sk0 hS) (sn0 hS) (sr0_10 hS) ?_
      refine wp_dup dX10_mend_41 rfl ?_
      refine wp_getI dX10_mend_42 flX10_145 rfl (sk36 hS) (sn36 hS) ?_
      refine wp_iconst (v := 1) dX10_mend_45 (by decide) ?_
      refine wp_iload_n dX10_mend_46 rfl rfl ?_
      refine wp_ishl dX10_mend_47 ?_
      refine wp_ior dX10_mend_48 ?_
      refine wp_putI dX10_mend_49 (Or.inl fpX10_145) rfl ⟨rfl, rfl⟩ (sk36 hS) (sn36 hS) ?_
      refine wp_iconst (v := 1) dX10_mend_52 (by decide) ?_
      exact wp_zret dX10_mend_53 rfl (by decide) (by obtain rfl := sji h; exact ⟨rfl, rfl, rfl, rfl⟩)
    · have h := ite_f hc3 h
      refine wp_aload_n dX10_mend_19 rfl rfl ?_
      obtain ⟨⟨r6, I7⟩, hF8, h⟩ := obi h
      refine wp_callVi (ci := 10) (As := []) dX10_mend_20 lbX10_refuseAct mlX10_300 imX10_refuseAct seX10_refuseAct vc10 (ct_X10_refuseAct 0 (Nat.le_refl _) hS  hF8) rfl rfl (Nat.le_trans (by decide) hd) (sk0 hS) (sn0 hS) (Nat.le_of_ble_eq_true rfl) (fun _ => ?_)
      refine wp_pop dX10_mend_23 rfl ?_
      refine wp_iconst (v := 0) dX10_mend_24 (by decide) ?_
      exact wp_zret dX10_mend_25 rfl (by decide) (by obtain rfl := sji h; exact ⟨rfl, rfl, rfl, rfl⟩)
  · exact wp_callVx (ci := 10) (As := [.int a2]) dX10_mend_2 lbX10_checkLink mlX10_215 imX10_checkLink seX10_checkLink vc10 (ct_X10_checkLink 9 (Nat.le_refl _) hS  hF2) rfl rfl (Nat.le_trans (by decide) hd) (sk0 hS) (sn0 hS) (Nat.le_of_ble_eq_true rfl) rfl (by obtain rfl := sji h; exact ⟨rfl, rfl, rfl, rfl⟩)
def mX10_planned (N : Nat) (a2 : Int32) (a3 : Int32) (I : gI) : Option ((Int32 ⊕ String) × gI) := lbind (mX10_checkTunnel a2 I) (fun _ => lbind (mX10_checkPlace a3 I) (fun _ => Option.bind (mX3_makePlan N I) (fun I5 => Option.bind (mX3_plannedWay a2 I5) (fun r7 => ck a2 9 (Option.bind (mX4_linkAt N r7 (I5 8 a2.toNatClampNeg) a3 I5) (fun r10 => some (.inl r10, I5)))))) (fun E12 => some (.inr E12, I))) (fun E13 => some (.inr E13, I))
set_option maxHeartbeats 4000000 in
set_option maxRecDepth 100000 in
theorem ct_X10_planned (N : Nat) (d : Nat) (hd : 10 ≤ d) {S : gS} {J : gJ} (hS : Sh S)  {a2 : Int32} {a3 : Int32} {I : gI} {r : (Int32 ⊕ String) × gI} (h : mX10_planned N a2 a3 I = some r) : Ct yX10_planned (wsY yX10_planned cX10_planned 3 (some .int)) d 2 12 [.ref 0, .int a2, .int a3] S I J (qE (oI r.1) S r.2 J) := by
  refine Ct.of hF (fun _ _ _ _ _ => trivial) (by decide +kernel) (Nat.le_of_ble_eq_true rfl) ⟨Or.inl (sn0 hS), trivial, trivial, trivial⟩ ?_
  show Wp RX10 cX10_planned 3 (some .int) [] hF d 2 12 0 [(0, .ref 0), (1, .int a2), (2, .int a3)] [] S I J _
  unfold mX10_planned at h
  refine wp_aload_n dX10_planned_0 rfl rfl ?_
  refine wp_iload_n dX10_planned_1 rfl rfl ?_
  rcases lbi h with ⟨⟨⟩, hF2, h⟩ | ⟨E13, hF2, h⟩
  · refine wp_callVv (ci := 10) (As := [.int a2]) dX10_planned_2 lbX10_checkTunnel mlX10_246 imX10_checkTunnel seX10_checkTunnel vc10 (ct_X10_checkTunnel 9 (Nat.le_refl _) hS  hF2) rfl rfl (Nat.le_trans (by decide) hd) (sk0 hS) (sn0 hS) (Nat.le_of_ble_eq_true rfl) (fun _ => ?_)
    refine wp_iload_n dX10_planned_5 rfl rfl ?_
    rcases lbi h with ⟨⟨⟩, hF4, h⟩ | ⟨E12, hF4, h⟩
    · refine wp_callSv (As := [.int a3]) dX10_planned_6 lbX10_checkPlace mlX10_281 smX10_checkPlace (ct_X10_checkPlace 9 (Nat.le_refl _) hS  hF4) rfl rfl (Nat.le_trans (by decide) hd) (Nat.le_of_ble_eq_true rfl) (fun _ => ?_)
      refine wp_aload_n dX10_planned_9 rfl rfl ?_
      refine wp_getR dX10_planned_10 flX10_67 rfl (sk0 hS) (sn0 hS) (sr0_13 hS) ?_
      obtain ⟨I5, hF6, h⟩ := obi h
      refine wp_callVNv (ci := 3) (As := []) dX10_planned_13 lbX3_makePlan mnX10_315 imX3_makePlan seX3_makePlan vc3 (ct_X3_makePlan N 4 (Nat.le_refl _) hS  hF6) rfl rfl (Nat.le_trans (by decide) hd) (sk43 hS) (sn43 hS) (Nat.le_of_ble_eq_true rfl) (fun _ => ?_)
      refine wp_aload_n dX10_planned_16 rfl rfl ?_
      refine wp_getR dX10_planned_17 flX10_20 rfl (sk0 hS) (sn0 hS) (sr0_6 hS) ?_
      refine wp_aload_n dX10_planned_20 rfl rfl ?_
      refine wp_getR dX10_planned_21 flX10_67 rfl (sk0 hS) (sn0 hS) (sr0_13 hS) ?_
      refine wp_iload_n dX10_planned_24 rfl rfl ?_
      obtain ⟨r7, hF8, h⟩ := obi h
      refine wp_callVNi (ci := 3) (As := [.int a2]) dX10_planned_25 lbX3_plannedWay mnX10_318 imX3_plannedWay seX3_plannedWay vc3 (ct_X3_plannedWay 0 (Nat.le_refl _) hS  hF8) rfl rfl (Nat.le_trans (by decide) hd) (sk43 hS) (sn43 hS) (Nat.le_of_ble_eq_true rfl) (fun _ => ?_)
      refine wp_aload_n dX10_planned_28 rfl rfl ?_
      refine wp_getR dX10_planned_29 flX10_20 rfl (sk0 hS) (sn0 hS) (sr0_6 hS) ?_
      refine wp_getR dX10_planned_32 flX10_252 rfl (sk2 hS) (sn2 hS) (sr2_8 hS) ?_
      refine wp_iload_n dX10_planned_35 rfl rfl ?_
      obtain ⟨hb9, h⟩ := ck_inv h
      refine wp_iald dX10_planned_36 (sk8 hS) (sn8 hS) hb9 ?_
      refine wp_iload_n dX10_planned_37 rfl rfl ?_
      obtain ⟨r10, hF11, h⟩ := obi h
      refine wp_callVNi (ci := 4) (As := [.int r7, .int (I5 8 a2.toNatClampNeg), .int a3]) dX10_planned_38 lbX4_linkAt mnX10_284 imX4_linkAt seX4_linkAt vc4 (ct_X4_linkAt N 1 (Nat.le_refl _) hS  hF11) rfl rfl (Nat.le_trans (by decide) hd) (sk2 hS) (sn2 hS) (Nat.le_of_ble_eq_true rfl) (fun _ => ?_)
      exact wp_iret dX10_planned_41 rfl (by obtain rfl := sji h; exact ⟨rfl, rfl, rfl, rfl⟩)
    · exact wp_callSx (As := [.int a3]) dX10_planned_6 lbX10_checkPlace mlX10_281 smX10_checkPlace (ct_X10_checkPlace 9 (Nat.le_refl _) hS  hF4) rfl rfl (Nat.le_trans (by decide) hd) (Nat.le_of_ble_eq_true rfl) rfl (by obtain rfl := sji h; exact ⟨rfl, rfl, rfl, rfl⟩)
  · exact wp_callVx (ci := 10) (As := [.int a2]) dX10_planned_2 lbX10_checkTunnel mlX10_246 imX10_checkTunnel seX10_checkTunnel vc10 (ct_X10_checkTunnel 9 (Nat.le_refl _) hS  hF2) rfl rfl (Nat.le_trans (by decide) hd) (sk0 hS) (sn0 hS) (Nat.le_of_ble_eq_true rfl) rfl (by obtain rfl := sji h; exact ⟨rfl, rfl, rfl, rfl⟩)
def mX10_order (N : Nat) (a2 : Int32) (I : gI) : Option ((Int32 ⊕ String) × gI) := lbind (mX10_checkPlace a2 I) (fun _ => Option.bind (mX3_makePlan N I) (fun I3 => Option.bind (mX3_inRow N a2 I3) (fun (r5, I6) => some (.inl r5, I6)))) (fun E8 => some (.inr E8, I))
set_option maxHeartbeats 4000000 in
set_option maxRecDepth 100000 in
theorem ct_X10_order (N : Nat) (d : Nat) (hd : 16 ≤ d) {S : gS} {J : gJ} (hS : Sh S)  {a2 : Int32} {I : gI} {r : (Int32 ⊕ String) × gI} (h : mX10_order N a2 I = some r) : Ct yX10_order (wsY yX10_order cX10_order 2 (some .int)) d 1 6 [.ref 0, .int a2] S I J (qE (oI r.1) S r.2 J) := by
  refine Ct.of hF (fun _ _ _ _ _ => trivial) (by decide +kernel) (Nat.le_of_ble_eq_true rfl) ⟨Or.inl (sn0 hS), trivial, trivial⟩ ?_
  show Wp RX10 cX10_order 2 (some .int) [] hF d 1 6 0 [(0, .ref 0), (1, .int a2)] [] S I J _
  unfold mX10_order at h
  refine wp_iload_n dX10_order_0 rfl rfl ?_
  rcases lbi h with ⟨⟨⟩, hF2, h⟩ | ⟨E8, hF2, h⟩
  · refine wp_callSv (As := [.int a2]) dX10_order_1 lbX10_checkPlace mlX10_281 smX10_checkPlace (ct_X10_checkPlace 9 (Nat.le_refl _) hS  hF2) rfl rfl (Nat.le_trans (by decide) hd) (Nat.le_of_ble_eq_true rfl) (fun _ => ?_)
    refine wp_aload_n dX10_order_4 rfl rfl ?_
    refine wp_getR dX10_order_5 flX10_67 rfl (sk0 hS) (sn0 hS) (sr0_13 hS) ?_
    obtain ⟨I3, hF4, h⟩ := obi h
    refine wp_callVNv (ci := 3) (As := []) dX10_order_8 lbX3_makePlan mnX10_315 imX3_makePlan seX3_makePlan vc3 (ct_X3_makePlan N 4 (Nat.le_refl _) hS  hF4) rfl rfl (Nat.le_trans (by decide) hd) (sk43 hS) (sn43 hS) (Nat.le_of_ble_eq_true rfl) (fun _ => ?_)
    refine wp_aload_n dX10_order_11 rfl rfl ?_
    refine wp_getR dX10_order_12 flX10_67 rfl (sk0 hS) (sn0 hS) (sr0_13 hS) ?_
    refine wp_iload_n dX10_order_15 rfl rfl ?_
    obtain ⟨⟨r5, I6⟩, hF7, h⟩ := obi h
    refine wp_callVNi (ci := 3) (As := [.int a2]) dX10_order_16 lbX3_inRow mnX10_321 imX3_inRow seX3_inRow vc3 (ct_X3_inRow N 15 (Nat.le_refl _) hS  hF7) rfl rfl (Nat.le_trans (by decide) hd) (sk43 hS) (sn43 hS) (Nat.le_of_ble_eq_true rfl) (fun _ => ?_)
    exact wp_iret dX10_order_19 rfl (by obtain rfl := sji h; exact ⟨rfl, rfl, rfl, rfl⟩)
  · exact wp_callSx (As := [.int a2]) dX10_order_1 lbX10_checkPlace mlX10_281 smX10_checkPlace (ct_X10_checkPlace 9 (Nat.le_refl _) hS  hF2) rfl rfl (Nat.le_trans (by decide) hd) (Nat.le_of_ble_eq_true rfl) rfl (by obtain rfl := sji h; exact ⟨rfl, rfl, rfl, rfl⟩)
def mX10_widest (N : Nat) (a2 : Int32) (a3 : Int32) (a4 : Int32) (I : gI) : Option ((Int32 ⊕ String) × gI) := lbind (mX10_checkNodes a2 a3 I) (fun _ => lbind (mX10_checkUnlike a2 a3 I) (fun _ => lbind (mX10_checkPriority a4 I) (fun _ => Option.bind (mX2_showPools N 36 (-1) a4 I) (fun I7 => Option.bind (mX6_widestOf N (I7 36 2) a2 a3 7 I7) (fun (r9, I10) => some (.inl r9, I10)))) (fun E12 => some (.inr E12, I))) (fun E13 => some (.inr E13, I))) (fun E14 => some (.inr E14, I))
set_option maxHeartbeats 4000000 in
set_option maxRecDepth 100000 in
theorem ct_X10_widest (N : Nat) (d : Nat) (hd : 10 ≤ d) {S : gS} {J : gJ} (hS : Sh S)  {a2 : Int32} {a3 : Int32} {a4 : Int32} {I : gI} {r : (Int32 ⊕ String) × gI} (h : mX10_widest N a2 a3 a4 I = some r) : Ct yX10_widest (wsY yX10_widest cX10_widest 4 (some .int)) d 3 18 [.ref 0, .int a2, .int a3, .int a4] S I J (qE (oI r.1) S r.2 J) := by
  refine Ct.of hF (fun _ _ _ _ _ => trivial) (by decide +kernel) (Nat.le_of_ble_eq_true rfl) ⟨Or.inl (sn0 hS), trivial, trivial, trivial, trivial⟩ ?_
  show Wp RX10 cX10_widest 4 (some .int) [] hF d 3 18 0 [(0, .ref 0), (1, .int a2), (2, .int a3), (3, .int a4)] [] S I J _
  unfold mX10_widest at h
  refine wp_aload_n dX10_widest_0 rfl rfl ?_
  refine wp_iload_n dX10_widest_1 rfl rfl ?_
  refine wp_iload_n dX10_widest_2 rfl rfl ?_
  rcases lbi h with ⟨⟨⟩, hF2, h⟩ | ⟨E14, hF2, h⟩
  · refine wp_callVv (ci := 10) (As := [.int a2, .int a3]) dX10_widest_3 lbX10_checkNodes mlX10_327 imX10_checkNodes seX10_checkNodes vc10 (ct_X10_checkNodes 9 (Nat.le_refl _) hS  hF2) rfl rfl (Nat.le_trans (by decide) hd) (sk0 hS) (sn0 hS) (Nat.le_of_ble_eq_true rfl) (fun _ => ?_)
    refine wp_iload_n dX10_widest_6 rfl rfl ?_
    refine wp_iload_n dX10_widest_7 rfl rfl ?_
    rcases lbi h with ⟨⟨⟩, hF4, h⟩ | ⟨E13, hF4, h⟩
    · refine wp_callSv (As := [.int a2, .int a3]) dX10_widest_8 lbX10_checkUnlike mlX10_331 smX10_checkUnlike (ct_X10_checkUnlike 9 (Nat.le_refl _) hS  hF4) rfl rfl (Nat.le_trans (by decide) hd) (Nat.le_of_ble_eq_true rfl) (fun _ => ?_)
      refine wp_iload_n dX10_widest_11 rfl rfl ?_
      rcases lbi h with ⟨⟨⟩, hF6, h⟩ | ⟨E12, hF6, h⟩
      · refine wp_callSv (As := [.int a4]) dX10_widest_12 lbX10_checkPriority mlX10_239 smX10_checkPriority (ct_X10_checkPriority 9 (Nat.le_refl _) hS  hF6) rfl rfl (Nat.le_trans (by decide) hd) (Nat.le_of_ble_eq_true rfl) (fun _ => ?_)
        refine wp_aload_n dX10_widest_15 rfl rfl ?_
        refine wp_getR dX10_widest_16 flX10_58 rfl (sk0 hS) (sn0 hS) (sr0_12 hS) ?_
        refine wp_iconst (v := (-1)) dX10_widest_19 (by decide) ?_
        refine wp_iload_n dX10_widest_20 rfl rfl ?_
        obtain ⟨I7, hF8, h⟩ := obi h
        refine wp_callVNv (ci := 2) (As := [.int (-1), .int a4]) dX10_widest_21 lbX2_showPools mnX10_334 imX2_showPools seX2_showPools vc2 (ct_X2_showPools N 1 (Nat.le_refl _) hS (le42 hS) hF8) rfl rfl (Nat.le_trans (by decide) hd) (sk42 hS) (sn42 hS) (Nat.le_of_ble_eq_true rfl) (fun _ => ?_)
        refine wp_aload_n dX10_widest_24 rfl rfl ?_
        refine wp_getR dX10_widest_25 flX10_39 rfl (sk0 hS) (sn0 hS) (sr0_9 hS) ?_
        refine wp_aload_n dX10_widest_28 rfl rfl ?_
        refine wp_getR dX10_widest_29 flX10_46 rfl (sk0 hS) (sn0 hS) (sr0_10 hS) ?_
        refine wp_getI dX10_widest_32 flX10_145 rfl (sk36 hS) (sn36 hS) ?_
        refine wp_iload_n dX10_widest_35 rfl rfl ?_
        refine wp_iload_n dX10_widest_36 rfl rfl ?_
        refine wp_bipush (v := 7) dX10_widest_37 (by decide) ?_
        obtain ⟨⟨r9, I10⟩, hF11, h⟩ := obi h
        refine wp_callVNi (ci := 6) (As := [.int (I7 36 2), .int a2, .int a3, .int 7]) dX10_widest_39 lbX6_widestOf mnX10_337 imX6_widestOf seX6_widestOf vc6 (ct_X6_widestOf N 1 (Nat.le_refl _) hS  hF11) rfl rfl (Nat.le_trans (by decide) hd) (sk30 hS) (sn30 hS) (Nat.le_of_ble_eq_true rfl) (fun _ => ?_)
        exact wp_iret dX10_widest_42 rfl (by obtain rfl := sji h; exact ⟨rfl, rfl, rfl, rfl⟩)
      · exact wp_callSx (As := [.int a4]) dX10_widest_12 lbX10_checkPriority mlX10_239 smX10_checkPriority (ct_X10_checkPriority 9 (Nat.le_refl _) hS  hF6) rfl rfl (Nat.le_trans (by decide) hd) (Nat.le_of_ble_eq_true rfl) rfl (by obtain rfl := sji h; exact ⟨rfl, rfl, rfl, rfl⟩)
    · exact wp_callSx (As := [.int a2, .int a3]) dX10_widest_8 lbX10_checkUnlike mlX10_331 smX10_checkUnlike (ct_X10_checkUnlike 9 (Nat.le_refl _) hS  hF4) rfl rfl (Nat.le_trans (by decide) hd) (Nat.le_of_ble_eq_true rfl) rfl (by obtain rfl := sji h; exact ⟨rfl, rfl, rfl, rfl⟩)
  · exact wp_callVx (ci := 10) (As := [.int a2, .int a3]) dX10_widest_3 lbX10_checkNodes mlX10_327 imX10_checkNodes seX10_checkNodes vc10 (ct_X10_checkNodes 9 (Nat.le_refl _) hS  hF2) rfl rfl (Nat.le_trans (by decide) hd) (sk0 hS) (sn0 hS) (Nat.le_of_ble_eq_true rfl) rfl (by obtain rfl := sji h; exact ⟨rfl, rfl, rfl, rfl⟩)
def mX10_cuts_39 (N : Nat) (k1 : Int32) (k2 : Int32) (I : gI) : Nat → Int32 → Int32 → Option (Int32)
  | 0, _, _ => none
  | n + 1, v3, v4 => if (I 2 1) ≤ v4 then (some v3) else (if ((I 36 2) &&& ((1 : Int32) <<< (v4 &&& 31))) = 0 then (mX10_cuts_39 N k1 k2 I n v3 (v4 + 1)) else (Option.bind (mX6_reaches N ((I 36 2) &&& (((1 : Int32) <<< (v4 &&& 31)) ^^^ (-1))) k1 k2 7 I) (fun r10 => if r10 = 0 then (mX10_cuts_39 N k1 k2 I n (v3 ||| ((1 : Int32) <<< (v4 &&& 31))) (v4 + 1)) else (mX10_cuts_39 N k1 k2 I n v3 (v4 + 1)))))
def mX10_cuts (N : Nat) (a2 : Int32) (a3 : Int32) (I : gI) : Option ((Int32 ⊕ String)) := lbind (mX10_checkNodes a2 a3 I) (fun _ => lbind (mX10_checkUnlike a2 a3 I) (fun _ => Option.bind (mX6_reaches N (I 36 2) a2 a3 7 I) (fun r5 => if r5 = 0 then (some (.inl 0)) else (Option.bind (mX10_cuts_39 N a2 a3 I N 0 0) (fun y13 => some (.inl y13))))) (fun E16 => some (.inr E16))) (fun E17 => some (.inr E17))
set_option maxHeartbeats 4000000 in
set_option maxRecDepth 100000 in
theorem wX10_cuts_39 (N : Nat) (d : Nat) (hd : 10 ≤ d) {S : gS} {J : gJ} (hS : Sh S)  (k1 : Int32) (k2 : Int32) (I : gI) {Q : gO → gS → gI → gJ → Prop} :
    ∀ (n : Nat) (v3 : Int32) (v4 : Int32) (res : Int32), mX10_cuts_39 N k1 k2 I n v3 v4 = some res → (∀ (o3 : Int32), res = o3 → Wp RX10 cX10_cuts 6 (some .int) [] hF d 0 0 107 [(3, .int o3)] [] S I J Q) → Wp RX10 cX10_cuts 6 (some .int) [] hF d 0 0 39 [(0, .ref 0), (1, .int k1), (2, .int k2), (3, .int v3), (4, .int v4)] [] S I J Q := by
  intro n
  induction n with
  | zero => intro v3 v4 res h; exact nso h
  | succ n ih =>
    intro v3 v4 res h kx
    rw [mX10_cuts_39] at h
    refine wp_iload dX10_cuts_39 rfl ?_
    refine wp_aload_n dX10_cuts_41 rfl rfl ?_
    refine wp_getR dX10_cuts_42 flX10_20 rfl (sk0 hS) (sn0 hS) (sr0_6 hS) ?_
    refine wp_getI dX10_cuts_45 flX10_135 rfl (sk2 hS) (sn2 hS) ?_
    refine wp_icmp_ge (tgt := 107) dX10_cuts_48 (by decide) (fun hc8 => ?_) (fun hc8 => ?_)
    · have h := ite_t hc8 h
      exact wp_pick (ks := [3]) rfl (kx _ (sji h).symm)
    · have h := ite_f hc8 h
      refine wp_iconst (v := 1) dX10_cuts_51 (by decide) ?_
      refine wp_iload dX10_cuts_52 rfl ?_
      refine wp_ishl dX10_cuts_54 ?_
      refine wp_istore (ls' := [(5, .int ((1 : Int32) <<< (v4 &&& 31))), (0, .ref 0), (1, .int k1), (2, .int k2), (3, .int v3), (4, .int v4)]) dX10_cuts_55 (Nat.le_of_ble_eq_true rfl) rfl ?_
      refine wp_aload_n dX10_cuts_57 rfl rfl ?_
      refine wp_getR dX10_cuts_58 flX10_46 rfl (sk0 hS) (sn0 hS) (sr0_10 hS) ?_
      refine wp_getI dX10_cuts_61 flX10_145 rfl (sk36 hS) (sn36 hS) ?_
      refine wp_iload dX10_cuts_64 rfl ?_
      refine wp_iand dX10_cuts_66 ?_
      refine wp_if_eq (tgt := 101) dX10_cuts_67 (by decide) (fun hc9 => ?_) (fun hc9 => ?_)
      · have h := ite_t hc9 h
        refine wp_iinc (v := 1) (ls' := [(4, .int (v4 + 1)), (5, .int ((1 : Int32) <<< (v4 &&& 31))), (0, .ref 0), (1, .int k1), (2, .int k2), (3, .int v3)]) dX10_cuts_101 rfl (by decide) (Nat.le_of_ble_eq_true rfl) rfl ?_
        refine wp_goto (tgt := 39) dX10_cuts_104 (by decide) ?_
        exact wp_pick (ks := [2, 3, 4, 5, 0]) rfl (ih _ _ _ h kx)
      · have h := ite_f hc9 h
        refine wp_aload_n dX10_cuts_70 rfl rfl ?_
        refine wp_getR dX10_cuts_71 flX10_39 rfl (sk0 hS) (sn0 hS) (sr0_9 hS) ?_
        refine wp_aload_n dX10_cuts_74 rfl rfl ?_
        refine wp_getR dX10_cuts_75 flX10_46 rfl (sk0 hS) (sn0 hS) (sr0_10 hS) ?_
        refine wp_getI dX10_cuts_78 flX10_145 rfl (sk36 hS) (sn36 hS) ?_
        refine wp_iload dX10_cuts_81 rfl ?_
        refine wp_iconst (v := (-1)) dX10_cuts_83 (by decide) ?_
        refine wp_ixor dX10_cuts_84 ?_
        refine wp_iand dX10_cuts_85 ?_
        refine wp_iload_n dX10_cuts_86 rfl rfl ?_
        refine wp_iload_n dX10_cuts_87 rfl rfl ?_
        refine wp_bipush (v := 7) dX10_cuts_88 (by decide) ?_
        obtain ⟨r10, hF11, h⟩ := obi h
        refine wp_callVNi (ci := 6) (As := [.int ((I 36 2) &&& (((1 : Int32) <<< (v4 &&& 31)) ^^^ (-1))), .int k1, .int k2, .int 7]) dX10_cuts_90 lbX6_reaches mnX10_352 imX6_reaches seX6_reaches vc6 (ct_X6_reaches N 0 (Nat.le_refl _) hS  hF11) rfl rfl (Nat.le_trans (by decide) hd) (sk30 hS) (sn30 hS) (Nat.le_of_ble_eq_true rfl) (fun _ => ?_)
        refine wp_if_ne (tgt := 101) dX10_cuts_93 (by decide) (fun hc12 => ?_) (fun hc12 => ?_)
        · have h := ite_f hc12 h
          refine wp_iinc (v := 1) (ls' := [(4, .int (v4 + 1)), (5, .int ((1 : Int32) <<< (v4 &&& 31))), (0, .ref 0), (1, .int k1), (2, .int k2), (3, .int v3)]) dX10_cuts_101 rfl (by decide) (Nat.le_of_ble_eq_true rfl) rfl ?_
          refine wp_goto (tgt := 39) dX10_cuts_104 (by decide) ?_
          exact wp_pick (ks := [2, 3, 4, 5, 0]) rfl (ih _ _ _ h kx)
        · have h := ite_t hc12 h
          refine wp_iload_n dX10_cuts_96 rfl rfl ?_
          refine wp_iload dX10_cuts_97 rfl ?_
          refine wp_ior dX10_cuts_99 ?_
          refine wp_istore_n (ls' := [(3, .int (v3 ||| ((1 : Int32) <<< (v4 &&& 31)))), (5, .int ((1 : Int32) <<< (v4 &&& 31))), (0, .ref 0), (1, .int k1), (2, .int k2), (4, .int v4)]) dX10_cuts_100 rfl (Nat.le_of_ble_eq_true rfl) rfl ?_
          refine wp_iinc (v := 1) (ls' := [(4, .int (v4 + 1)), (3, .int (v3 ||| ((1 : Int32) <<< (v4 &&& 31)))), (5, .int ((1 : Int32) <<< (v4 &&& 31))), (0, .ref 0), (1, .int k1), (2, .int k2)]) dX10_cuts_101 rfl (by decide) (Nat.le_of_ble_eq_true rfl) rfl ?_
          refine wp_goto (tgt := 39) dX10_cuts_104 (by decide) ?_
          exact wp_pick (ks := [3, 4, 5, 1, 0]) rfl (ih _ _ _ h kx)
set_option maxHeartbeats 4000000 in
set_option maxRecDepth 100000 in
theorem ct_X10_cuts (N : Nat) (d : Nat) (hd : 10 ≤ d) {S : gS} {J : gJ} (hS : Sh S)  {a2 : Int32} {a3 : Int32} {I : gI} {r : (Int32 ⊕ String)} (h : mX10_cuts N a2 a3 I = some r) : Ct yX10_cuts (wsY yX10_cuts cX10_cuts 6 (some .int)) d 2 12 [.ref 0, .int a2, .int a3] S I J (qE (oI r) S I J) := by
  refine Ct.of hF (fun _ _ _ _ _ => trivial) (by decide +kernel) (Nat.le_of_ble_eq_true rfl) ⟨Or.inl (sn0 hS), trivial, trivial, trivial⟩ ?_
  show Wp RX10 cX10_cuts 6 (some .int) [] hF d 2 12 0 [(0, .ref 0), (1, .int a2), (2, .int a3)] [] S I J _
  unfold mX10_cuts at h
  refine wp_aload_n dX10_cuts_0 rfl rfl ?_
  refine wp_iload_n dX10_cuts_1 rfl rfl ?_
  refine wp_iload_n dX10_cuts_2 rfl rfl ?_
  rcases lbi h with ⟨⟨⟩, hF2, h⟩ | ⟨E17, hF2, h⟩
  · refine wp_callVv (ci := 10) (As := [.int a2, .int a3]) dX10_cuts_3 lbX10_checkNodes mlX10_327 imX10_checkNodes seX10_checkNodes vc10 (ct_X10_checkNodes 9 (Nat.le_refl _) hS  hF2) rfl rfl (Nat.le_trans (by decide) hd) (sk0 hS) (sn0 hS) (Nat.le_of_ble_eq_true rfl) (fun _ => ?_)
    refine wp_iload_n dX10_cuts_6 rfl rfl ?_
    refine wp_iload_n dX10_cuts_7 rfl rfl ?_
    rcases lbi h with ⟨⟨⟩, hF4, h⟩ | ⟨E16, hF4, h⟩
    · refine wp_callSv (As := [.int a2, .int a3]) dX10_cuts_8 lbX10_checkUnlike mlX10_331 smX10_checkUnlike (ct_X10_checkUnlike 9 (Nat.le_refl _) hS  hF4) rfl rfl (Nat.le_trans (by decide) hd) (Nat.le_of_ble_eq_true rfl) (fun _ => ?_)
      refine wp_iconst (v := 0) dX10_cuts_11 (by decide) ?_
      refine wp_istore_n (ls' := [(3, .int 0), (0, .ref 0), (1, .int a2), (2, .int a3)]) dX10_cuts_12 rfl (Nat.le_of_ble_eq_true rfl) rfl ?_
      refine wp_aload_n dX10_cuts_13 rfl rfl ?_
      refine wp_getR dX10_cuts_14 flX10_39 rfl (sk0 hS) (sn0 hS) (sr0_9 hS) ?_
      refine wp_aload_n dX10_cuts_17 rfl rfl ?_
      refine wp_getR dX10_cuts_18 flX10_46 rfl (sk0 hS) (sn0 hS) (sr0_10 hS) ?_
      refine wp_getI dX10_cuts_21 flX10_145 rfl (sk36 hS) (sn36 hS) ?_
      refine wp_iload_n dX10_cuts_24 rfl rfl ?_
      refine wp_iload_n dX10_cuts_25 rfl rfl ?_
      refine wp_bipush (v := 7) dX10_cuts_26 (by decide) ?_
      obtain ⟨r5, hF6, h⟩ := obi h
      refine wp_callVNi (ci := 6) (As := [.int (I 36 2), .int a2, .int a3, .int 7]) dX10_cuts_28 lbX6_reaches mnX10_352 imX6_reaches seX6_reaches vc6 (ct_X6_reaches N 0 (Nat.le_refl _) hS  hF6) rfl rfl (Nat.le_trans (by decide) hd) (sk30 hS) (sn30 hS) (Nat.le_of_ble_eq_true rfl) (fun _ => ?_)
      refine wp_if_ne (tgt := 36) dX10_cuts_31 (by decide) (fun hc7 => ?_) (fun hc7 => ?_)
      · have h := ite_f hc7 h
        refine wp_iconst (v := 0) dX10_cuts_36 (by decide) ?_
        refine wp_istore (ls' := [(4, .int 0), (3, .int 0), (0, .ref 0), (1, .int a2), (2, .int a3)]) dX10_cuts_37 (Nat.le_of_ble_eq_true rfl) rfl ?_
        obtain ⟨y13, hL914, h⟩ := obi h
        refine wp_pick (ks := [2, 3, 4, 1, 0]) rfl (wX10_cuts_39 N d hd hS  a2 a3 I N 0 0 _ hL914 (fun _ e15 => ?_))
        cases e15
        refine wp_iload_n dX10_cuts_107 rfl rfl ?_
        exact wp_iret dX10_cuts_108 rfl (by obtain rfl := sji h; exact ⟨rfl, rfl, rfl, rfl⟩)
      · have h := ite_t hc7 h
        refine wp_iload_n dX10_cuts_34 rfl rfl ?_
        exact wp_iret dX10_cuts_35 rfl (by obtain rfl := sji h; exact ⟨rfl, rfl, rfl, rfl⟩)
    · exact wp_callSx (As := [.int a2, .int a3]) dX10_cuts_8 lbX10_checkUnlike mlX10_331 smX10_checkUnlike (ct_X10_checkUnlike 9 (Nat.le_refl _) hS  hF4) rfl rfl (Nat.le_trans (by decide) hd) (Nat.le_of_ble_eq_true rfl) rfl (by obtain rfl := sji h; exact ⟨rfl, rfl, rfl, rfl⟩)
  · exact wp_callVx (ci := 10) (As := [.int a2, .int a3]) dX10_cuts_3 lbX10_checkNodes mlX10_327 imX10_checkNodes seX10_checkNodes vc10 (ct_X10_checkNodes 9 (Nat.le_refl _) hS  hF2) rfl rfl (Nat.le_trans (by decide) hd) (sk0 hS) (sn0 hS) (Nat.le_of_ble_eq_true rfl) rfl (by obtain rfl := sji h; exact ⟨rfl, rfl, rfl, rfl⟩)
def mX10_flow (N : Nat) (a2 : Int32) (a3 : Int32) (a4 : Int32) (I : gI) : Option ((Int32 ⊕ String) × gI) := lbind (mX10_checkNodes a2 a3 I) (fun _ => lbind (mX10_checkUnlike a2 a3 I) (fun _ => lbind (mX10_checkPriority a4 I) (fun _ => Option.bind (mX2_showPools N 36 (-1) a4 I) (fun I7 => Option.bind (mX6_mostFlow N (I7 36 2) a2 a3 I7) (fun (r9, I10) => some (.inl r9, I10)))) (fun E12 => some (.inr E12, I))) (fun E13 => some (.inr E13, I))) (fun E14 => some (.inr E14, I))
set_option maxHeartbeats 4000000 in
set_option maxRecDepth 100000 in
theorem ct_X10_flow (N : Nat) (d : Nat) (hd : 10 ≤ d) {S : gS} {J : gJ} (hS : Sh S)  {a2 : Int32} {a3 : Int32} {a4 : Int32} {I : gI} {r : (Int32 ⊕ String) × gI} (h : mX10_flow N a2 a3 a4 I = some r) : Ct yX10_flow (wsY yX10_flow cX10_flow 4 (some .int)) d 3 18 [.ref 0, .int a2, .int a3, .int a4] S I J (qE (oI r.1) S r.2 J) := by
  refine Ct.of hF (fun _ _ _ _ _ => trivial) (by decide +kernel) (Nat.le_of_ble_eq_true rfl) ⟨Or.inl (sn0 hS), trivial, trivial, trivial, trivial⟩ ?_
  show Wp RX10 cX10_flow 4 (some .int) [] hF d 3 18 0 [(0, .ref 0), (1, .int a2), (2, .int a3), (3, .int a4)] [] S I J _
  unfold mX10_flow at h
  refine wp_aload_n dX10_flow_0 rfl rfl ?_
  refine wp_iload_n dX10_flow_1 rfl rfl ?_
  refine wp_iload_n dX10_flow_2 rfl rfl ?_
  rcases lbi h with ⟨⟨⟩, hF2, h⟩ | ⟨E14, hF2, h⟩
  · refine wp_callVv (ci := 10) (As := [.int a2, .int a3]) dX10_flow_3 lbX10_checkNodes mlX10_327 imX10_checkNodes seX10_checkNodes vc10 (ct_X10_checkNodes 9 (Nat.le_refl _) hS  hF2) rfl rfl (Nat.le_trans (by decide) hd) (sk0 hS) (sn0 hS) (Nat.le_of_ble_eq_true rfl) (fun _ => ?_)
    refine wp_iload_n dX10_flow_6 rfl rfl ?_
    refine wp_iload_n dX10_flow_7 rfl rfl ?_
    rcases lbi h with ⟨⟨⟩, hF4, h⟩ | ⟨E13, hF4, h⟩
    · refine wp_callSv (As := [.int a2, .int a3]) dX10_flow_8 lbX10_checkUnlike mlX10_331 smX10_checkUnlike (ct_X10_checkUnlike 9 (Nat.le_refl _) hS  hF4) rfl rfl (Nat.le_trans (by decide) hd) (Nat.le_of_ble_eq_true rfl) (fun _ => ?_)
      refine wp_iload_n dX10_flow_11 rfl rfl ?_
      rcases lbi h with ⟨⟨⟩, hF6, h⟩ | ⟨E12, hF6, h⟩
      · refine wp_callSv (As := [.int a4]) dX10_flow_12 lbX10_checkPriority mlX10_239 smX10_checkPriority (ct_X10_checkPriority 9 (Nat.le_refl _) hS  hF6) rfl rfl (Nat.le_trans (by decide) hd) (Nat.le_of_ble_eq_true rfl) (fun _ => ?_)
        refine wp_aload_n dX10_flow_15 rfl rfl ?_
        refine wp_getR dX10_flow_16 flX10_58 rfl (sk0 hS) (sn0 hS) (sr0_12 hS) ?_
        refine wp_iconst (v := (-1)) dX10_flow_19 (by decide) ?_
        refine wp_iload_n dX10_flow_20 rfl rfl ?_
        obtain ⟨I7, hF8, h⟩ := obi h
        refine wp_callVNv (ci := 2) (As := [.int (-1), .int a4]) dX10_flow_21 lbX2_showPools mnX10_334 imX2_showPools seX2_showPools vc2 (ct_X2_showPools N 1 (Nat.le_refl _) hS (le42 hS) hF8) rfl rfl (Nat.le_trans (by decide) hd) (sk42 hS) (sn42 hS) (Nat.le_of_ble_eq_true rfl) (fun _ => ?_)
        refine wp_aload_n dX10_flow_24 rfl rfl ?_
        refine wp_getR dX10_flow_25 flX10_39 rfl (sk0 hS) (sn0 hS) (sr0_9 hS) ?_
        refine wp_aload_n dX10_flow_28 rfl rfl ?_
        refine wp_getR dX10_flow_29 flX10_46 rfl (sk0 hS) (sn0 hS) (sr0_10 hS) ?_
        refine wp_getI dX10_flow_32 flX10_145 rfl (sk36 hS) (sn36 hS) ?_
        refine wp_iload_n dX10_flow_35 rfl rfl ?_
        refine wp_iload_n dX10_flow_36 rfl rfl ?_
        obtain ⟨⟨r9, I10⟩, hF11, h⟩ := obi h
        refine wp_callVNi (ci := 6) (As := [.int (I7 36 2), .int a2, .int a3]) dX10_flow_37 lbX6_mostFlow mnX10_356 imX6_mostFlow seX6_mostFlow vc6 (ct_X6_mostFlow N 2 (Nat.le_refl _) hS  hF11) rfl rfl (Nat.le_trans (by decide) hd) (sk30 hS) (sn30 hS) (Nat.le_of_ble_eq_true rfl) (fun _ => ?_)
        exact wp_iret dX10_flow_40 rfl (by obtain rfl := sji h; exact ⟨rfl, rfl, rfl, rfl⟩)
      · exact wp_callSx (As := [.int a4]) dX10_flow_12 lbX10_checkPriority mlX10_239 smX10_checkPriority (ct_X10_checkPriority 9 (Nat.le_refl _) hS  hF6) rfl rfl (Nat.le_trans (by decide) hd) (Nat.le_of_ble_eq_true rfl) rfl (by obtain rfl := sji h; exact ⟨rfl, rfl, rfl, rfl⟩)
    · exact wp_callSx (As := [.int a2, .int a3]) dX10_flow_8 lbX10_checkUnlike mlX10_331 smX10_checkUnlike (ct_X10_checkUnlike 9 (Nat.le_refl _) hS  hF4) rfl rfl (Nat.le_trans (by decide) hd) (Nat.le_of_ble_eq_true rfl) rfl (by obtain rfl := sji h; exact ⟨rfl, rfl, rfl, rfl⟩)
  · exact wp_callVx (ci := 10) (As := [.int a2, .int a3]) dX10_flow_3 lbX10_checkNodes mlX10_327 imX10_checkNodes seX10_checkNodes vc10 (ct_X10_checkNodes 9 (Nat.le_refl _) hS  hF2) rfl rfl (Nat.le_trans (by decide) hd) (sk0 hS) (sn0 hS) (Nat.le_of_ble_eq_true rfl) rfl (by obtain rfl := sji h; exact ⟨rfl, rfl, rfl, rfl⟩)
def mX10_distance (N : Nat) (a2 : Int32) (a3 : Int32) (I : gI) : Option ((Int32 ⊕ String) × gI) := lbind (mX10_checkNodes a2 a3 I) (fun _ => Option.bind (mX6_leastMetric N (I 36 2) a2 a3 7 I) (fun (r3, I4) => if 1000000 ≤ r3 then (some (.inl (-1), I4)) else (some (.inl r3, I4)))) (fun E7 => some (.inr E7, I))
set_option maxHeartbeats 4000000 in
set_option maxRecDepth 100000 in
theorem ct_X10_distance (N : Nat) (d : Nat) (hd : 10 ≤ d) {S : gS} {J : gJ} (hS : Sh S)  {a2 : Int32} {a3 : Int32} {I : gI} {r : (Int32 ⊕ String) × gI} (h : mX10_distance N a2 a3 I = some r) : Ct yX10_distance (wsY yX10_distance cX10_distance 4 (some .int)) d 1 6 [.ref 0, .int a2, .int a3] S I J (qE (oI r.1) S r.2 J) := by
  refine Ct.of hF (fun _ _ _ _ _ => trivial) (by decide +kernel) (Nat.le_of_ble_eq_true rfl) ⟨Or.inl (sn0 hS), trivial, trivial, trivial⟩ ?_
  show Wp RX10 cX10_distance 4 (some .int) [] hF d 1 6 0 [(0, .ref 0), (1, .int a2), (2, .int a3)] [] S I J _
  unfold mX10_distance at h
  refine wp_aload_n dX10_distance_0 rfl rfl ?_
  refine wp_iload_n dX10_distance_1 rfl rfl ?_
  refine wp_iload_n dX10_distance_2 rfl rfl ?_
  rcases lbi h with ⟨⟨⟩, hF2, h⟩ | ⟨E7, hF2, h⟩
  · refine wp_callVv (ci := 10) (As := [.int a2, .int a3]) dX10_distance_3 lbX10_checkNodes mlX10_327 imX10_checkNodes seX10_checkNodes vc10 (ct_X10_checkNodes 9 (Nat.le_refl _) hS  hF2) rfl rfl (Nat.le_trans (by decide) hd) (sk0 hS) (sn0 hS) (Nat.le_of_ble_eq_true rfl) (fun _ => ?_)
    refine wp_aload_n dX10_distance_6 rfl rfl ?_
    refine wp_getR dX10_distance_7 flX10_39 rfl (sk0 hS) (sn0 hS) (sr0_9 hS) ?_
    refine wp_aload_n dX10_distance_10 rfl rfl ?_
    refine wp_getR dX10_distance_11 flX10_46 rfl (sk0 hS) (sn0 hS) (sr0_10 hS) ?_
    refine wp_getI dX10_distance_14 flX10_145 rfl (sk36 hS) (sn36 hS) ?_
    refine wp_iload_n dX10_distance_17 rfl rfl ?_
    refine wp_iload_n dX10_distance_18 rfl rfl ?_
    refine wp_bipush (v := 7) dX10_distance_19 (by decide) ?_
    obtain ⟨⟨r3, I4⟩, hF5, h⟩ := obi h
    refine wp_callVNi (ci := 6) (As := [.int (I 36 2), .int a2, .int a3, .int 7]) dX10_distance_21 lbX6_leastMetric mnX10_359 imX6_leastMetric seX6_leastMetric vc6 (ct_X6_leastMetric N 1 (Nat.le_refl _) hS  hF5) rfl rfl (Nat.le_trans (by decide) hd) (sk30 hS) (sn30 hS) (Nat.le_of_ble_eq_true rfl) (fun _ => ?_)
    refine wp_istore_n (ls' := [(3, .int r3), (0, .ref 0), (1, .int a2), (2, .int a3)]) dX10_distance_24 rfl (Nat.le_of_ble_eq_true rfl) rfl ?_
    refine wp_iload_n dX10_distance_25 rfl rfl ?_
    refine wp_ldc_w dX10_distance_26 koX10_361 ?_
    refine wp_icmp_ge (tgt := 36) dX10_distance_29 (by decide) (fun hc6 => ?_) (fun hc6 => ?_)
    · have h := ite_t hc6 h
      refine wp_iconst (v := (-1)) dX10_distance_36 (by decide) ?_
      exact wp_iret dX10_distance_37 rfl (by obtain rfl := sji h; exact ⟨rfl, rfl, rfl, rfl⟩)
    · have h := ite_f hc6 h
      refine wp_iload_n dX10_distance_32 rfl rfl ?_
      refine wp_goto (tgt := 37) dX10_distance_33 (by decide) ?_
      exact wp_iret dX10_distance_37 rfl (by obtain rfl := sji h; exact ⟨rfl, rfl, rfl, rfl⟩)
  · exact wp_callVx (ci := 10) (As := [.int a2, .int a3]) dX10_distance_3 lbX10_checkNodes mlX10_327 imX10_checkNodes seX10_checkNodes vc10 (ct_X10_checkNodes 9 (Nat.le_refl _) hS  hF2) rfl rfl (Nat.le_trans (by decide) hd) (sk0 hS) (sn0 hS) (Nat.le_of_ble_eq_true rfl) rfl (by obtain rfl := sji h; exact ⟨rfl, rfl, rfl, rfl⟩)
def mX10_room (N : Nat) (a2 : Int32) (I : gI) : Option ((Int32 ⊕ String) × gI) := lbind (mX10_checkTunnel a2 I) (fun _ => ck a2 9 (Option.bind (mX2_showPools N 36 a2 (I 11 a2.toNatClampNeg) I) (fun I4 => Option.bind (mX2_openTo N 36 a2 I4) (fun r6 => Option.bind (mX6_widestOf N r6 (I4 8 a2.toNatClampNeg) (I4 9 a2.toNatClampNeg) (I4 14 a2.toNatClampNeg) I4) (fun (r8, I9) => some (.inl r8, I9)))))) (fun E11 => some (.inr E11, I))
set_option maxHeartbeats 4000000 in
set_option maxRecDepth 100000 in
theorem ct_X10_room (N : Nat) (d : Nat) (hd : 10 ≤ d) {S : gS} {J : gJ} (hS : Sh S)  {a2 : Int32} {I : gI} {r : (Int32 ⊕ String) × gI} (h : mX10_room N a2 I = some r) : Ct yX10_room (wsY yX10_room cX10_room 2 (some .int)) d 1 6 [.ref 0, .int a2] S I J (qE (oI r.1) S r.2 J) := by
  refine Ct.of hF (fun _ _ _ _ _ => trivial) (by decide +kernel) (Nat.le_of_ble_eq_true rfl) ⟨Or.inl (sn0 hS), trivial, trivial⟩ ?_
  show Wp RX10 cX10_room 2 (some .int) [] hF d 1 6 0 [(0, .ref 0), (1, .int a2)] [] S I J _
  unfold mX10_room at h
  refine wp_aload_n dX10_room_0 rfl rfl ?_
  refine wp_iload_n dX10_room_1 rfl rfl ?_
  rcases lbi h with ⟨⟨⟩, hF2, h⟩ | ⟨E11, hF2, h⟩
  · refine wp_callVv (ci := 10) (As := [.int a2]) dX10_room_2 lbX10_checkTunnel mlX10_246 imX10_checkTunnel seX10_checkTunnel vc10 (ct_X10_checkTunnel 9 (Nat.le_refl _) hS  hF2) rfl rfl (Nat.le_trans (by decide) hd) (sk0 hS) (sn0 hS) (Nat.le_of_ble_eq_true rfl) (fun _ => ?_)
    refine wp_aload_n dX10_room_5 rfl rfl ?_
    refine wp_getR dX10_room_6 flX10_58 rfl (sk0 hS) (sn0 hS) (sr0_12 hS) ?_
    refine wp_iload_n dX10_room_9 rfl rfl ?_
    refine wp_aload_n dX10_room_10 rfl rfl ?_
    refine wp_getR dX10_room_11 flX10_20 rfl (sk0 hS) (sn0 hS) (sr0_6 hS) ?_
    refine wp_getR dX10_room_14 flX10_261 rfl (sk2 hS) (sn2 hS) (sr2_11 hS) ?_
    refine wp_iload_n dX10_room_17 rfl rfl ?_
    obtain ⟨hb3, h⟩ := ck_inv h
    refine wp_iald dX10_room_18 (sk11 hS) (sn11 hS) hb3 ?_
    obtain ⟨I4, hF5, h⟩ := obi h
    refine wp_callVNv (ci := 2) (As := [.int a2, .int (I 11 a2.toNatClampNeg)]) dX10_room_19 lbX2_showPools mnX10_334 imX2_showPools seX2_showPools vc2 (ct_X2_showPools N 1 (Nat.le_refl _) hS (le42 hS) hF5) rfl rfl (Nat.le_trans (by decide) hd) (sk42 hS) (sn42 hS) (Nat.le_of_ble_eq_true rfl) (fun _ => ?_)
    refine wp_aload_n dX10_room_22 rfl rfl ?_
    refine wp_getR dX10_room_23 flX10_39 rfl (sk0 hS) (sn0 hS) (sr0_9 hS) ?_
    refine wp_aload_n dX10_room_26 rfl rfl ?_
    refine wp_getR dX10_room_27 flX10_58 rfl (sk0 hS) (sn0 hS) (sr0_12 hS) ?_
    refine wp_iload_n dX10_room_30 rfl rfl ?_
    obtain ⟨r6, hF7, h⟩ := obi h
    refine wp_callVNi (ci := 2) (As := [.int a2]) dX10_room_31 lbX2_openTo mnX10_343 imX2_openTo seX2_openTo vc2 (ct_X2_openTo N 0 (Nat.le_refl _) hS (le42 hS) hF7) rfl rfl (Nat.le_trans (by decide) hd) (sk42 hS) (sn42 hS) (Nat.le_of_ble_eq_true rfl) (fun _ => ?_)
    refine wp_aload_n dX10_room_34 rfl rfl ?_
    refine wp_getR dX10_room_35 flX10_20 rfl (sk0 hS) (sn0 hS) (sr0_6 hS) ?_
    refine wp_getR dX10_room_38 flX10_252 rfl (sk2 hS) (sn2 hS) (sr2_8 hS) ?_
    refine wp_iload_n dX10_room_41 rfl rfl ?_
    refine wp_iald dX10_room_42 (sk8 hS) (sn8 hS) hb3 ?_
    refine wp_aload_n dX10_room_43 rfl rfl ?_
    refine wp_getR dX10_room_44 flX10_20 rfl (sk0 hS) (sn0 hS) (sr0_6 hS) ?_
    refine wp_getR dX10_room_47 flX10_255 rfl (sk2 hS) (sn2 hS) (sr2_9 hS) ?_
    refine wp_iload_n dX10_room_50 rfl rfl ?_
    refine wp_iald dX10_room_51 (sk9 hS) (sn9 hS) hb3 ?_
    refine wp_aload_n dX10_room_52 rfl rfl ?_
    refine wp_getR dX10_room_53 flX10_20 rfl (sk0 hS) (sn0 hS) (sr0_6 hS) ?_
    refine wp_getR dX10_room_56 flX10_270 rfl (sk2 hS) (sn2 hS) (sr2_14 hS) ?_
    refine wp_iload_n dX10_room_59 rfl rfl ?_
    refine wp_iald dX10_room_60 (sk14 hS) (sn14 hS) hb3 ?_
    obtain ⟨⟨r8, I9⟩, hF10, h⟩ := obi h
    refine wp_callVNi (ci := 6) (As := [.int r6, .int (I4 8 a2.toNatClampNeg), .int (I4 9 a2.toNatClampNeg), .int (I4 14 a2.toNatClampNeg)]) dX10_room_61 lbX6_widestOf mnX10_337 imX6_widestOf seX6_widestOf vc6 (ct_X6_widestOf N 1 (Nat.le_refl _) hS  hF10) rfl rfl (Nat.le_trans (by decide) hd) (sk30 hS) (sn30 hS) (Nat.le_of_ble_eq_true rfl) (fun _ => ?_)
    exact wp_iret dX10_room_64 rfl (by obtain rfl := sji h; exact ⟨rfl, rfl, rfl, rfl⟩)
  · exact wp_callVx (ci := 10) (As := [.int a2]) dX10_room_2 lbX10_checkTunnel mlX10_246 imX10_checkTunnel seX10_checkTunnel vc10 (ct_X10_checkTunnel 9 (Nat.le_refl _) hS  hF2) rfl rfl (Nat.le_trans (by decide) hd) (sk0 hS) (sn0 hS) (Nat.le_of_ble_eq_true rfl) rfl (by obtain rfl := sji h; exact ⟨rfl, rfl, rfl, rfl⟩)
def mX10_saved_19 (N : Nat) (k1 : Int32) (k2 : Int32) (I : gI) : Nat → Int32 → Int32 → Option (Int32)
  | 0, _, _ => none
  | n + 1, v3, v4 => if (I 2 2) ≤ v4 then (some v3) else (if ((ushr k2 v4) &&& 1) = 0 then (mX10_saved_19 N k1 k2 I n v3 (v4 + 1)) else (Option.bind (mX2_hasWayWithout N 36 v4 k1 I) (fun r7 => if r7 = 0 then (mX10_saved_19 N k1 k2 I n v3 (v4 + 1)) else (mX10_saved_19 N k1 k2 I n (v3 ||| ((1 : Int32) <<< (v4 &&& 31))) (v4 + 1)))))
def mX10_saved (N : Nat) (a2 : Int32) (I : gI) : Option ((Int32 ⊕ String)) := lbind (mX10_checkLink a2 I) (fun _ => Option.bind (mX2_tunnelsOn N 36 a2 I) (fun r3 => Option.bind (mX10_saved_19 N a2 r3 I N 0 0) (fun y10 => some (.inl y10)))) (fun E13 => some (.inr E13))
set_option maxHeartbeats 4000000 in
set_option maxRecDepth 100000 in
theorem wX10_saved_19 (N : Nat) (d : Nat) (hd : 10 ≤ d) {S : gS} {J : gJ} (hS : Sh S)  (k1 : Int32) (k2 : Int32) (I : gI) {Q : gO → gS → gI → gJ → Prop} :
    ∀ (n : Nat) (v3 : Int32) (v4 : Int32) (res : Int32), mX10_saved_19 N k1 k2 I n v3 v4 = some res → (∀ (o3 : Int32), res = o3 → Wp RX10 cX10_saved 5 (some .int) [] hF d 0 0 66 [(3, .int o3)] [] S I J Q) → Wp RX10 cX10_saved 5 (some .int) [] hF d 0 0 19 [(0, .ref 0), (1, .int k1), (2, .int k2), (3, .int v3), (4, .int v4)] [] S I J Q := by
  intro n
  induction n with
  | zero => intro v3 v4 res h; exact nso h
  | succ n ih =>
    intro v3 v4 res h kx
    rw [mX10_saved_19] at h
    refine wp_iload dX10_saved_19 rfl ?_
    refine wp_aload_n dX10_saved_21 rfl rfl ?_
    refine wp_getR dX10_saved_22 flX10_20 rfl (sk0 hS) (sn0 hS) (sr0_6 hS) ?_
    refine wp_getI dX10_saved_25 flX10_138 rfl (sk2 hS) (sn2 hS) ?_
    refine wp_icmp_ge (tgt := 66) dX10_saved_28 (by decide) (fun hc5 => ?_) (fun hc5 => ?_)
    · have h := ite_t hc5 h
      exact wp_pick (ks := [3]) rfl (kx _ (sji h).symm)
    · have h := ite_f hc5 h
      refine wp_iload_n dX10_saved_31 rfl rfl ?_
      refine wp_iload dX10_saved_32 rfl ?_
      refine wp_iushr dX10_saved_34 ?_
      refine wp_iconst (v := 1) dX10_saved_35 (by decide) ?_
      refine wp_iand dX10_saved_36 ?_
      refine wp_if_eq (tgt := 60) dX10_saved_37 (by decide) (fun hc6 => ?_) (fun hc6 => ?_)
      · have h := ite_t hc6 h
        refine wp_iinc (v := 1) (ls' := [(4, .int (v4 + 1)), (0, .ref 0), (1, .int k1), (2, .int k2), (3, .int v3)]) dX10_saved_60 rfl (by decide) (Nat.le_of_ble_eq_true rfl) rfl ?_
        refine wp_goto (tgt := 19) dX10_saved_63 (by decide) ?_
        exact wp_pick (ks := [1, 2, 3, 4, 0]) rfl (ih _ _ _ h kx)
      · have h := ite_f hc6 h
        refine wp_aload_n dX10_saved_40 rfl rfl ?_
        refine wp_getR dX10_saved_41 flX10_58 rfl (sk0 hS) (sn0 hS) (sr0_12 hS) ?_
        refine wp_iload dX10_saved_44 rfl ?_
        refine wp_iload_n dX10_saved_46 rfl rfl ?_
        obtain ⟨r7, hF8, h⟩ := obi h
        refine wp_callVNi (ci := 2) (As := [.int v4, .int k1]) dX10_saved_47 lbX2_hasWayWithout mnX10_362 imX2_hasWayWithout seX2_hasWayWithout vc2 (ct_X2_hasWayWithout N 2 (Nat.le_refl _) hS (le42 hS) hF8) rfl rfl (Nat.le_trans (by decide) hd) (sk42 hS) (sn42 hS) (Nat.le_of_ble_eq_true rfl) (fun _ => ?_)
        refine wp_if_eq (tgt := 60) dX10_saved_50 (by decide) (fun hc9 => ?_) (fun hc9 => ?_)
        · have h := ite_t hc9 h
          refine wp_iinc (v := 1) (ls' := [(4, .int (v4 + 1)), (0, .ref 0), (1, .int k1), (2, .int k2), (3, .int v3)]) dX10_saved_60 rfl (by decide) (Nat.le_of_ble_eq_true rfl) rfl ?_
          refine wp_goto (tgt := 19) dX10_saved_63 (by decide) ?_
          exact wp_pick (ks := [1, 2, 3, 4, 0]) rfl (ih _ _ _ h kx)
        · have h := ite_f hc9 h
          refine wp_iload_n dX10_saved_53 rfl rfl ?_
          refine wp_iconst (v := 1) dX10_saved_54 (by decide) ?_
          refine wp_iload dX10_saved_55 rfl ?_
          refine wp_ishl dX10_saved_57 ?_
          refine wp_ior dX10_saved_58 ?_
          refine wp_istore_n (ls' := [(3, .int (v3 ||| ((1 : Int32) <<< (v4 &&& 31)))), (0, .ref 0), (1, .int k1), (2, .int k2), (4, .int v4)]) dX10_saved_59 rfl (Nat.le_of_ble_eq_true rfl) rfl ?_
          refine wp_iinc (v := 1) (ls' := [(4, .int (v4 + 1)), (3, .int (v3 ||| ((1 : Int32) <<< (v4 &&& 31)))), (0, .ref 0), (1, .int k1), (2, .int k2)]) dX10_saved_60 rfl (by decide) (Nat.le_of_ble_eq_true rfl) rfl ?_
          refine wp_goto (tgt := 19) dX10_saved_63 (by decide) ?_
          exact wp_pick (ks := [2, 3, 4, 1, 0]) rfl (ih _ _ _ h kx)
set_option maxHeartbeats 4000000 in
set_option maxRecDepth 100000 in
theorem ct_X10_saved (N : Nat) (d : Nat) (hd : 10 ≤ d) {S : gS} {J : gJ} (hS : Sh S)  {a2 : Int32} {I : gI} {r : (Int32 ⊕ String)} (h : mX10_saved N a2 I = some r) : Ct yX10_saved (wsY yX10_saved cX10_saved 5 (some .int)) d 1 6 [.ref 0, .int a2] S I J (qE (oI r) S I J) := by
  refine Ct.of hF (fun _ _ _ _ _ => trivial) (by decide +kernel) (Nat.le_of_ble_eq_true rfl) ⟨Or.inl (sn0 hS), trivial, trivial⟩ ?_
  show Wp RX10 cX10_saved 5 (some .int) [] hF d 1 6 0 [(0, .ref 0), (1, .int a2)] [] S I J _
  unfold mX10_saved at h
  refine wp_aload_n dX10_saved_0 rfl rfl ?_
  refine wp_iload_n dX10_saved_1 rfl rfl ?_
  rcases lbi h with ⟨⟨⟩, hF2, h⟩ | ⟨E13, hF2, h⟩
  · refine wp_callVv (ci := 10) (As := [.int a2]) dX10_saved_2 lbX10_checkLink mlX10_215 imX10_checkLink seX10_checkLink vc10 (ct_X10_checkLink 9 (Nat.le_refl _) hS  hF2) rfl rfl (Nat.le_trans (by decide) hd) (sk0 hS) (sn0 hS) (Nat.le_of_ble_eq_true rfl) (fun _ => ?_)
    refine wp_aload_n dX10_saved_5 rfl rfl ?_
    refine wp_getR dX10_saved_6 flX10_58 rfl (sk0 hS) (sn0 hS) (sr0_12 hS) ?_
    refine wp_iload_n dX10_saved_9 rfl rfl ?_
    obtain ⟨r3, hF4, h⟩ := obi h
    refine wp_callVNi (ci := 2) (As := [.int a2]) dX10_saved_10 lbX2_tunnelsOn mnX10_182 imX2_tunnelsOn seX2_tunnelsOn vc2 (ct_X2_tunnelsOn N 0 (Nat.le_refl _) hS (le42 hS) hF4) rfl rfl (Nat.le_trans (by decide) hd) (sk42 hS) (sn42 hS) (Nat.le_of_ble_eq_true rfl) (fun _ => ?_)
    refine wp_istore_n (ls' := [(2, .int r3), (0, .ref 0), (1, .int a2)]) dX10_saved_13 rfl (Nat.le_of_ble_eq_true rfl) rfl ?_
    refine wp_iconst (v := 0) dX10_saved_14 (by decide) ?_
    refine wp_istore_n (ls' := [(3, .int 0), (2, .int r3), (0, .ref 0), (1, .int a2)]) dX10_saved_15 rfl (Nat.le_of_ble_eq_true rfl) rfl ?_
    refine wp_iconst (v := 0) dX10_saved_16 (by decide) ?_
    refine wp_istore (ls' := [(4, .int 0), (3, .int 0), (2, .int r3), (0, .ref 0), (1, .int a2)]) dX10_saved_17 (Nat.le_of_ble_eq_true rfl) rfl ?_
    obtain ⟨y10, hL911, h⟩ := obi h
    refine wp_pick (ks := [3, 4, 2, 1, 0]) rfl (wX10_saved_19 N d hd hS  a2 r3 I N 0 0 _ hL911 (fun _ e12 => ?_))
    cases e12
    refine wp_iload_n dX10_saved_66 rfl rfl ?_
    exact wp_iret dX10_saved_67 rfl (by obtain rfl := sji h; exact ⟨rfl, rfl, rfl, rfl⟩)
  · exact wp_callVx (ci := 10) (As := [.int a2]) dX10_saved_2 lbX10_checkLink mlX10_215 imX10_checkLink seX10_checkLink vc10 (ct_X10_checkLink 9 (Nat.le_refl _) hS  hF2) rfl rfl (Nat.le_trans (by decide) hd) (sk0 hS) (sn0 hS) (Nat.le_of_ble_eq_true rfl) rfl (by obtain rfl := sji h; exact ⟨rfl, rfl, rfl, rfl⟩)
def mX10_see (a2 : Int32) (a3 : Int32) (a4 : Int32) (a5 : Int32) (a6 : Int32) (I : gI) : Option ((Int32 ⊕ String) × gI) := lbind (mX10_checkNodes a2 a3 I) (fun _ => Option.bind (if a2 = a3 then (some 0) else (Option.bind (mX10_isAmount a4 I) (fun r5 => if r5 = 0 then (some 0) else (Option.bind (mX10_isPriority a5 I) (fun r8 => if r8 = 0 then (some 0) else (some 1))))) : Option (Int32)) (fun x3 => if x3 = 0 then (some (.inl (-1), upd2 I 0 5 ((I 0 5) + 1))) else (if (I 173 5) < 8 then (Option.bind (mX7_add a2 a3 a4 a5 a6 I) (fun I13 => some (.inl (I13 173 5), I13))) else (some (.inl (-1), upd2 I 0 5 ((I 0 5) + 1)))))) (fun E16 => some (.inr E16, I))
set_option maxHeartbeats 4000000 in
set_option maxRecDepth 100000 in
theorem ct_X10_see (d : Nat) (hd : 10 ≤ d) {S : gS} {J : gJ} (hS : Sh S)  {a2 : Int32} {a3 : Int32} {a4 : Int32} {a5 : Int32} {a6 : Int32} {I : gI} {r : (Int32 ⊕ String) × gI} (h : mX10_see a2 a3 a4 a5 a6 I = some r) : Ct yX10_see (wsY yX10_see cX10_see 7 (some .int)) d 1 6 [.ref 0, .int a2, .int a3, .int a4, .int a5, .int a6] S I J (qE (oI r.1) S r.2 J) := by
  refine Ct.of hF (fun _ _ _ _ _ => trivial) (by decide +kernel) (Nat.le_of_ble_eq_true rfl) ⟨Or.inl (sn0 hS), trivial, trivial, trivial, trivial, trivial, trivial⟩ ?_
  show Wp RX10 cX10_see 7 (some .int) [] hF d 1 6 0 [(0, .ref 0), (1, .int a2), (2, .int a3), (3, .int a4), (4, .int a5), (5, .int a6)] [] S I J _
  unfold mX10_see at h
  refine wp_aload_n dX10_see_0 rfl rfl ?_
  refine wp_iload_n dX10_see_1 rfl rfl ?_
  refine wp_iload_n dX10_see_2 rfl rfl ?_
  rcases lbi h with ⟨⟨⟩, hF2, h⟩ | ⟨E16, hF2, h⟩
  · refine wp_callVv (ci := 10) (As := [.int a2, .int a3]) dX10_see_3 lbX10_checkNodes mlX10_327 imX10_checkNodes seX10_checkNodes vc10 (ct_X10_checkNodes 9 (Nat.le_refl _) hS  hF2) rfl rfl (Nat.le_trans (by decide) hd) (sk0 hS) (sn0 hS) (Nat.le_of_ble_eq_true rfl) (fun _ => ?_)
    refine wp_iload_n dX10_see_6 rfl rfl ?_
    refine wp_iload_n dX10_see_7 rfl rfl ?_
    obtain ⟨x3, hh15, h⟩ := obi h
    have hJ : Wp RX10 cX10_see 7 (some .int) [] hF d 0 0 31 [(0, .ref 0), (1, .int a2), (2, .int a3), (3, .int a4), (4, .int a5), (5, .int a6)] [.int x3] S I J (qE (oI r.1) S r.2 J) := by
      refine wp_istore (ls' := [(6, .int x3), (0, .ref 0), (1, .int a2), (2, .int a3), (3, .int a4), (4, .int a5), (5, .int a6)]) dX10_see_31 (Nat.le_of_ble_eq_true rfl) rfl ?_
      refine wp_iload dX10_see_33 rfl ?_
      refine wp_if_eq (tgt := 50) dX10_see_35 (by decide) (fun hc11 => ?_) (fun hc11 => ?_)
      · have h := ite_t hc11 h
        refine wp_aload_n dX10_see_50 rfl rfl ?_
        refine wp_dup dX10_see_51 rfl ?_
        refine wp_getI dX10_see_52 flX10_174 rfl (sk0 hS) (sn0 hS) ?_
        refine wp_iconst (v := 1) dX10_see_55 (by decide) ?_
        refine wp_iadd dX10_see_56 ?_
        refine wp_putI dX10_see_57 (Or.inl fpX10_174) rfl ⟨rfl, rfl⟩ (sk0 hS) (sn0 hS) ?_
        refine wp_iconst (v := (-1)) dX10_see_60 (by decide) ?_
        exact wp_iret dX10_see_61 rfl (by obtain rfl := sji h; exact ⟨rfl, rfl, rfl, rfl⟩)
      · have h := ite_f hc11 h
        refine wp_aload_n dX10_see_38 rfl rfl ?_
        refine wp_getR dX10_see_39 flX10_81 rfl (sk0 hS) (sn0 hS) (sr0_15 hS) ?_
        refine wp_getI dX10_see_42 flX10_170 rfl (sk173 hS) (sn173 hS) ?_
        refine wp_bipush (v := 8) dX10_see_45 (by decide) ?_
        refine wp_icmp_lt (tgt := 62) dX10_see_47 (by decide) (fun hc12 => ?_) (fun hc12 => ?_)
        · have h := ite_t hc12 h
          refine wp_aload_n dX10_see_62 rfl rfl ?_
          refine wp_getR dX10_see_63 flX10_81 rfl (sk0 hS) (sn0 hS) (sr0_15 hS) ?_
          refine wp_iload_n dX10_see_66 rfl rfl ?_
          refine wp_iload_n dX10_see_67 rfl rfl ?_
          refine wp_iload_n dX10_see_68 rfl rfl ?_
          refine wp_iload dX10_see_69 rfl ?_
          refine wp_iload dX10_see_71 rfl ?_
          obtain ⟨I13, hF14, h⟩ := obi h
          refine wp_callVNv (ci := 7) (As := [.int a2, .int a3, .int a4, .int a5, .int a6]) dX10_see_73 lbX7_add mnX10_366 imX7_add seX7_add vc7 (ct_X7_add 0 (Nat.le_refl _) hS  hF14) rfl rfl (Nat.le_trans (by decide) hd) (sk173 hS) (sn173 hS) (Nat.le_of_ble_eq_true rfl) (fun _ => ?_)
          refine wp_aload_n dX10_see_76 rfl rfl ?_
          refine wp_getR dX10_see_77 flX10_81 rfl (sk0 hS) (sn0 hS) (sr0_15 hS) ?_
          refine wp_getI dX10_see_80 flX10_170 rfl (sk173 hS) (sn173 hS) ?_
          exact wp_iret dX10_see_83 rfl (by obtain rfl := sji h; exact ⟨rfl, rfl, rfl, rfl⟩)
        · have h := ite_f hc12 h
          refine wp_aload_n dX10_see_50 rfl rfl ?_
          refine wp_dup dX10_see_51 rfl ?_
          refine wp_getI dX10_see_52 flX10_174 rfl (sk0 hS) (sn0 hS) ?_
          refine wp_iconst (v := 1) dX10_see_55 (by decide) ?_
          refine wp_iadd dX10_see_56 ?_
          refine wp_putI dX10_see_57 (Or.inl fpX10_174) rfl ⟨rfl, rfl⟩ (sk0 hS) (sn0 hS) ?_
          refine wp_iconst (v := (-1)) dX10_see_60 (by decide) ?_
          exact wp_iret dX10_see_61 rfl (by obtain rfl := sji h; exact ⟨rfl, rfl, rfl, rfl⟩)
    clear h
    have h := hh15
    clear hh15
    refine wp_icmp_eq (tgt := 30) dX10_see_8 (by decide) (fun hc4 => ?_) (fun hc4 => ?_)
    · have h := ite_t hc4 h
      refine wp_iconst (v := 0) dX10_see_30 (by decide) ?_
      cases h
      exact wp_pick (ks := [0, 1, 2, 3, 4, 5]) rfl hJ
    · have h := ite_f hc4 h
      refine wp_iload_n dX10_see_11 rfl rfl ?_
      obtain ⟨r5, hF6, h⟩ := obi h
      refine wp_callSi (As := [.int a4]) dX10_see_12 lbX10_isAmount mlX10_306 smX10_isAmount (ct_X10_isAmount 0 (Nat.le_refl _) hS  hF6) rfl rfl (Nat.le_trans (by decide) hd) (Nat.le_of_ble_eq_true rfl) (fun _ => ?_)
      refine wp_if_eq (tgt := 30) dX10_see_15 (by decide) (fun hc7 => ?_) (fun hc7 => ?_)
      · have h := ite_t hc7 h
        refine wp_iconst (v := 0) dX10_see_30 (by decide) ?_
        cases h
        exact wp_pick (ks := [0, 1, 2, 3, 4, 5]) rfl hJ
      · have h := ite_f hc7 h
        refine wp_iload dX10_see_18 rfl ?_
        obtain ⟨r8, hF9, h⟩ := obi h
        refine wp_callSi (As := [.int a5]) dX10_see_20 lbX10_isPriority mlX10_207 smX10_isPriority (ct_X10_isPriority 0 (Nat.le_refl _) hS  hF9) rfl rfl (Nat.le_trans (by decide) hd) (Nat.le_of_ble_eq_true rfl) (fun _ => ?_)
        refine wp_if_eq (tgt := 30) dX10_see_23 (by decide) (fun hc10 => ?_) (fun hc10 => ?_)
        · have h := ite_t hc10 h
          refine wp_iconst (v := 0) dX10_see_30 (by decide) ?_
          cases h
          exact wp_pick (ks := [0, 1, 2, 3, 4, 5]) rfl hJ
        · have h := ite_f hc10 h
          refine wp_iconst (v := 1) dX10_see_26 (by decide) ?_
          refine wp_goto (tgt := 31) dX10_see_27 (by decide) ?_
          cases h
          exact wp_pick (ks := [0, 1, 2, 3, 4, 5]) rfl hJ
  · exact wp_callVx (ci := 10) (As := [.int a2, .int a3]) dX10_see_3 lbX10_checkNodes mlX10_327 imX10_checkNodes seX10_checkNodes vc10 (ct_X10_checkNodes 9 (Nat.le_refl _) hS  hF2) rfl rfl (Nat.le_trans (by decide) hd) (sk0 hS) (sn0 hS) (Nat.le_of_ble_eq_true rfl) rfl (by obtain rfl := sji h; exact ⟨rfl, rfl, rfl, rfl⟩)
def mX10_other (N : Nat) (a2 : Int32) (I : gI) : Option ((Int32 ⊕ String) × gI) := if a2 < 0 then (some (.inr "java/util/NoSuchElementException", I)) else (if a2 ≤ 2 then (if a2 = 2 then (Option.bind (mX7_isSo N 36 I) (fun r10 => if r10 = 0 then (some (.inl 0, I)) else (some (.inl 1, I)))) else (Option.bind (if a2 = 1 then (some 1) else (some 0) : Option (Int32)) (fun x4 => Option.bind (mX10_otherCapacities N x4 I) (fun (r6, I7) => some (.inl r6, I7))))) else (some (.inr "java/util/NoSuchElementException", I)))
set_option maxHeartbeats 4000000 in
set_option maxRecDepth 100000 in
theorem ct_X10_other (N : Nat) (d : Nat) (hd : 9 ≤ d) {S : gS} {J : gJ} (hS : Sh S)  {a2 : Int32} {I : gI} {r : (Int32 ⊕ String) × gI} (h : mX10_other N a2 I = some r) : Ct yX10_other (wsY yX10_other cX10_other 2 (some .int)) d 1 6 [.ref 0, .int a2] S I J (qE (oI r.1) S r.2 J) := by
  refine Ct.of hF (fun _ _ _ _ _ => trivial) (by decide +kernel) (Nat.le_of_ble_eq_true rfl) ⟨Or.inl (sn0 hS), trivial, trivial⟩ ?_
  show Wp RX10 cX10_other 2 (some .int) [] hF d 1 6 0 [(0, .ref 0), (1, .int a2)] [] S I J _
  unfold mX10_other at h
  refine wp_iload_n dX10_other_0 rfl rfl ?_
  refine wp_if_lt (tgt := 9) dX10_other_1 (by decide) (fun hc1 => ?_) (fun hc1 => ?_)
  · have h := ite_t hc1 h
    exact wp_throwWN (i := 15) dX10_other_9 dX10_other_12 dX10_other_13 dX10_other_16 dX10_other_19 rfl clX10_177 rfl (Nat.le_trans (by decide) hd) (by obtain rfl := sji h; exact ⟨rfl, rfl, rfl, rfl⟩)
  · have h := ite_f hc1 h
    refine wp_iload_n dX10_other_4 rfl rfl ?_
    refine wp_iconst (v := 2) dX10_other_5 (by decide) ?_
    refine wp_icmp_le (tgt := 20) dX10_other_6 (by decide) (fun hc2 => ?_) (fun hc2 => ?_)
    · have h := ite_t hc2 h
      refine wp_iload_n dX10_other_20 rfl rfl ?_
      refine wp_iconst (v := 2) dX10_other_21 (by decide) ?_
      refine wp_icmp_ne (tgt := 49) dX10_other_22 (by decide) (fun hc3 => ?_) (fun hc3 => ?_)
      · have h := ite_f hc3 h
        refine wp_aload_n dX10_other_49 rfl rfl ?_
        refine wp_iload_n dX10_other_50 rfl rfl ?_
        refine wp_iconst (v := 1) dX10_other_51 (by decide) ?_
        obtain ⟨x4, hh9, h⟩ := obi h
        have hJ : Wp RX10 cX10_other 2 (some .int) [] hF d 1 6 60 [] [.int x4, .ref 0] S I J (qE (oI r.1) S r.2 J) := by
          obtain ⟨⟨r6, I7⟩, hF8, h⟩ := obi h
          refine wp_callVi (ci := 10) (As := [.int x4]) dX10_other_60 lbX10_otherCapacities mlX10_376 imX10_otherCapacities seX10_otherCapacities vc10 (ct_X10_otherCapacities N 3 (Nat.le_refl _) hS  hF8) rfl rfl (Nat.le_trans (by decide) hd) (sk0 hS) (sn0 hS) (Nat.le_of_ble_eq_true rfl) (fun _ => ?_)
          exact wp_iret dX10_other_63 rfl (by obtain rfl := sji h; exact ⟨rfl, rfl, rfl, rfl⟩)
        clear h
        have h := hh9
        clear hh9
        refine wp_icmp_ne (tgt := 59) dX10_other_52 (by decide) (fun hc5 => ?_) (fun hc5 => ?_)
        · have h := ite_f hc5 h
          refine wp_iconst (v := 0) dX10_other_59 (by decide) ?_
          cases h
          exact wp_pick (ks := []) rfl hJ
        · have h := ite_t hc5 h
          refine wp_iconst (v := 1) dX10_other_55 (by decide) ?_
          refine wp_goto (tgt := 60) dX10_other_56 (by decide) ?_
          cases h
          exact wp_pick (ks := []) rfl hJ
      · have h := ite_t hc3 h
        refine wp_aload_n dX10_other_25 rfl rfl ?_
        refine wp_getR dX10_other_26 flX10_81 rfl (sk0 hS) (sn0 hS) (sr0_15 hS) ?_
        refine wp_aload_n dX10_other_29 rfl rfl ?_
        refine wp_getR dX10_other_30 flX10_58 rfl (sk0 hS) (sn0 hS) (sr0_12 hS) ?_
        refine wp_aload_n dX10_other_33 rfl rfl ?_
        refine wp_getR dX10_other_34 flX10_39 rfl (sk0 hS) (sn0 hS) (sr0_9 hS) ?_
        obtain ⟨r10, hF11, h⟩ := obi h
        refine wp_callVNi (ci := 7) (As := [.ref 42, .ref 30]) dX10_other_37 lbX7_isSo mnX10_372 imX7_isSo seX7_isSo vc7 (ct_X7_isSo N 2 (Nat.le_refl _) hS (le42 hS) hF11) rfl rfl (Nat.le_trans (by decide) hd) (sk173 hS) (sn173 hS) (Nat.le_of_ble_eq_true rfl) (fun _ => ?_)
        refine wp_if_eq (tgt := 47) dX10_other_40 (by decide) (fun hc12 => ?_) (fun hc12 => ?_)
        · have h := ite_t hc12 h
          refine wp_iconst (v := 0) dX10_other_47 (by decide) ?_
          exact wp_iret dX10_other_48 rfl (by obtain rfl := sji h; exact ⟨rfl, rfl, rfl, rfl⟩)
        · have h := ite_f hc12 h
          refine wp_iconst (v := 1) dX10_other_43 (by decide) ?_
          refine wp_goto (tgt := 48) dX10_other_44 (by decide) ?_
          exact wp_iret dX10_other_48 rfl (by obtain rfl := sji h; exact ⟨rfl, rfl, rfl, rfl⟩)
    · have h := ite_f hc2 h
      exact wp_throwWN (i := 15) dX10_other_9 dX10_other_12 dX10_other_13 dX10_other_16 dX10_other_19 rfl clX10_177 rfl (Nat.le_trans (by decide) hd) (by obtain rfl := sji h; exact ⟨rfl, rfl, rfl, rfl⟩)
def mX10_luck_60 (N : Nat) (k1 : Int32) (k2 : Int32) (k3 : Int32) (k4 : Int32) (k5 : Int32) (I : gI) : Nat → Int32 → Int32 → Option (Int32)
  | 0, _, _ => none
  | n + 1, v6, v7 => if k4 ≤ v7 then (some v6) else (if (v7 &&& (k5 ^^^ (-1))) = 0 then (Option.bind (mJ6_bitCount_0f7a4 v7 I) (fun r9 => Option.bind (mX10_power N k2 r9 I) (fun r11 => Option.bind (mJ6_bitCount_0f7a4 (k5 &&& (v7 ^^^ (-1))) I) (fun r13 => Option.bind (mX10_power N (10 - k2) r13 I) (fun r15 => if (r11 * r15) = 0 then (mX10_luck_60 N k1 k2 k3 k4 k5 I n v6 (v7 + 1)) else (ck k1 9 (Option.bind (mX6_reaches N (k3 &&& (v7 ^^^ (-1))) (I 8 k1.toNatClampNeg) (I 9 k1.toNatClampNeg) (I 14 k1.toNatClampNeg) I) (fun r19 => if r19 = 0 then (mX10_luck_60 N k1 k2 k3 k4 k5 I n v6 (v7 + 1)) else (mX10_luck_60 N k1 k2 k3 k4 k5 I n (v6 + (r11 * r15)) (v7 + 1)))))))))) else (mX10_luck_60 N k1 k2 k3 k4 k5 I n v6 (v7 + 1)))
def mX10_luck (N : Nat) (a2 : Int32) (a3 : Int32) (I : gI) : Option ((Int32 ⊕ String)) := lbind (mX10_checkTunnel a2 I) (fun _ => if a3 < 0 then (some (.inr "java/lang/IllegalArgumentException")) else (if a3 ≤ 10 then (Option.bind (mX2_openTo N 36 a2 I) (fun r5 => Option.bind (mX10_luck_60 N a2 a3 r5 256 ((I 36 2) &&& (256 - 1)) I N 0 0) (fun y22 => some (.inl y22)))) else (some (.inr "java/lang/IllegalArgumentException")))) (fun E25 => some (.inr E25))
set_option maxHeartbeats 4000000 in
set_option maxRecDepth 100000 in
theorem wX10_luck_60 (N : Nat) (d : Nat) (hd : 10 ≤ d) {S : gS} {J : gJ} (hS : Sh S)  (k1 : Int32) (k2 : Int32) (k3 : Int32) (k4 : Int32) (k5 : Int32) (I : gI) {Q : gO → gS → gI → gJ → Prop} :
    ∀ (n : Nat) (v6 : Int32) (v7 : Int32) (res : Int32), mX10_luck_60 N k1 k2 k3 k4 k5 I n v6 v7 = some res → (∀ (o6 : Int32), res = o6 → Wp RX10 cX10_luck 9 (some .int) [] hF d 1 6 170 [(6, .int o6)] [] S I J Q) → Wp RX10 cX10_luck 9 (some .int) [] hF d 1 6 60 [(0, .ref 0), (1, .int k1), (2, .int k2), (3, .int k3), (4, .int k4), (5, .int k5), (6, .int v6), (7, .int v7)] [] S I J Q := by
  intro n
  induction n with
  | zero => intro v6 v7 res h; exact nso h
  | succ n ih =>
    intro v6 v7 res h kx
    rw [mX10_luck_60] at h
    refine wp_iload dX10_luck_60 rfl ?_
    refine wp_iload dX10_luck_62 rfl ?_
    refine wp_icmp_ge (tgt := 170) dX10_luck_64 (by decide) (fun hc7 => ?_) (fun hc7 => ?_)
    · have h := ite_t hc7 h
      exact wp_pick (ks := [6]) rfl (kx _ (sji h).symm)
    · have h := ite_f hc7 h
      refine wp_iload dX10_luck_67 rfl ?_
      refine wp_iload dX10_luck_69 rfl ?_
      refine wp_iconst (v := (-1)) dX10_luck_71 (by decide) ?_
      refine wp_ixor dX10_luck_72 ?_
      refine wp_iand dX10_luck_73 ?_
      refine wp_if_eq (tgt := 80) dX10_luck_74 (by decide) (fun hc8 => ?_) (fun hc8 => ?_)
      · have h := ite_t hc8 h
        refine wp_iload_n dX10_luck_80 rfl rfl ?_
        refine wp_iload dX10_luck_81 rfl ?_
        obtain ⟨r9, hF10, h⟩ := obi h
        refine wp_callSi (As := [.int v7]) dX10_luck_83 lbJ6_bitCount_0f7a4 mlX10_194 smJ6_bitCount_0f7a4 (ct_J6_bitCount_0f7a4 0 (Nat.le_refl _) hS  hF10) rfl rfl (Nat.le_trans (by decide) hd) (Nat.le_of_ble_eq_true rfl) (fun _ => ?_)
        obtain ⟨r11, hF12, h⟩ := obi h
        refine wp_callSi (As := [.int k2, .int r9]) dX10_luck_86 lbX10_power mlX10_401 smX10_power (ct_X10_power N 0 (Nat.le_refl _) hS  hF12) rfl rfl (Nat.le_trans (by decide) hd) (Nat.le_of_ble_eq_true rfl) (fun _ => ?_)
        refine wp_bipush (v := 10) dX10_luck_89 (by decide) ?_
        refine wp_iload_n dX10_luck_91 rfl rfl ?_
        refine wp_isub dX10_luck_92 ?_
        refine wp_iload dX10_luck_93 rfl ?_
        refine wp_iload dX10_luck_95 rfl ?_
        refine wp_iconst (v := (-1)) dX10_luck_97 (by decide) ?_
        refine wp_ixor dX10_luck_98 ?_
        refine wp_iand dX10_luck_99 ?_
        obtain ⟨r13, hF14, h⟩ := obi h
        refine wp_callSi (As := [.int (k5 &&& (v7 ^^^ (-1)))]) dX10_luck_100 lbJ6_bitCount_0f7a4 mlX10_194 smJ6_bitCount_0f7a4 (ct_J6_bitCount_0f7a4 0 (Nat.le_refl _) hS  hF14) rfl rfl (Nat.le_trans (by decide) hd) (Nat.le_of_ble_eq_true rfl) (fun _ => ?_)
        obtain ⟨r15, hF16, h⟩ := obi h
        refine wp_callSi (As := [.int (10 - k2), .int r13]) dX10_luck_103 lbX10_power mlX10_401 smX10_power (ct_X10_power N 0 (Nat.le_refl _) hS  hF16) rfl rfl (Nat.le_trans (by decide) hd) (Nat.le_of_ble_eq_true rfl) (fun _ => ?_)
        refine wp_imul dX10_luck_106 ?_
        refine wp_istore (ls' := [(8, .int (r11 * r15)), (0, .ref 0), (1, .int k1), (2, .int k2), (3, .int k3), (4, .int k4), (5, .int k5), (6, .int v6), (7, .int v7)]) dX10_luck_107 (Nat.le_of_ble_eq_true rfl) rfl ?_
        refine wp_iload dX10_luck_109 rfl ?_
        refine wp_if_eq (tgt := 164) dX10_luck_111 (by decide) (fun hc17 => ?_) (fun hc17 => ?_)
        · have h := ite_t hc17 h
          refine wp_iinc (v := 1) (ls' := [(7, .int (v7 + 1)), (8, .int (r11 * r15)), (0, .ref 0), (1, .int k1), (2, .int k2), (3, .int k3), (4, .int k4), (5, .int k5), (6, .int v6)]) dX10_luck_164 rfl (by decide) (Nat.le_of_ble_eq_true rfl) rfl ?_
          refine wp_goto (tgt := 60) dX10_luck_167 (by decide) ?_
          exact wp_pick (ks := [2, 3, 4, 5, 6, 7, 8, 0]) rfl (ih _ _ _ h kx)
        · have h := ite_f hc17 h
          refine wp_aload_n dX10_luck_114 rfl rfl ?_
          refine wp_getR dX10_luck_115 flX10_39 rfl (sk0 hS) (sn0 hS) (sr0_9 hS) ?_
          refine wp_iload_n dX10_luck_118 rfl rfl ?_
          refine wp_iload dX10_luck_119 rfl ?_
          refine wp_iconst (v := (-1)) dX10_luck_121 (by decide) ?_
          refine wp_ixor dX10_luck_122 ?_
          refine wp_iand dX10_luck_123 ?_
          refine wp_aload_n dX10_luck_124 rfl rfl ?_
          refine wp_getR dX10_luck_125 flX10_20 rfl (sk0 hS) (sn0 hS) (sr0_6 hS) ?_
          refine wp_getR dX10_luck_128 flX10_252 rfl (sk2 hS) (sn2 hS) (sr2_8 hS) ?_
          refine wp_iload_n dX10_luck_131 rfl rfl ?_
          obtain ⟨hb18, h⟩ := ck_inv h
          refine wp_iald dX10_luck_132 (sk8 hS) (sn8 hS) hb18 ?_
          refine wp_aload_n dX10_luck_133 rfl rfl ?_
          refine wp_getR dX10_luck_134 flX10_20 rfl (sk0 hS) (sn0 hS) (sr0_6 hS) ?_
          refine wp_getR dX10_luck_137 flX10_255 rfl (sk2 hS) (sn2 hS) (sr2_9 hS) ?_
          refine wp_iload_n dX10_luck_140 rfl rfl ?_
          refine wp_iald dX10_luck_141 (sk9 hS) (sn9 hS) hb18 ?_
          refine wp_aload_n dX10_luck_142 rfl rfl ?_
          refine wp_getR dX10_luck_143 flX10_20 rfl (sk0 hS) (sn0 hS) (sr0_6 hS) ?_
          refine wp_getR dX10_luck_146 flX10_270 rfl (sk2 hS) (sn2 hS) (sr2_14 hS) ?_
          refine wp_iload_n dX10_luck_149 rfl rfl ?_
          refine wp_iald dX10_luck_150 (sk14 hS) (sn14 hS) hb18 ?_
          obtain ⟨r19, hF20, h⟩ := obi h
          refine wp_callVNi (ci := 6) (As := [.int (k3 &&& (v7 ^^^ (-1))), .int (I 8 k1.toNatClampNeg), .int (I 9 k1.toNatClampNeg), .int (I 14 k1.toNatClampNeg)]) dX10_luck_151 lbX6_reaches mnX10_352 imX6_reaches seX6_reaches vc6 (ct_X6_reaches N 0 (Nat.le_refl _) hS  hF20) rfl rfl (Nat.le_trans (by decide) hd) (sk30 hS) (sn30 hS) (Nat.le_of_ble_eq_true rfl) (fun _ => ?_)
          refine wp_if_eq (tgt := 164) dX10_luck_154 (by decide) (fun hc21 => ?_) (fun hc21 => ?_)
          · have h := ite_t hc21 h
            refine wp_iinc (v := 1) (ls' := [(7, .int (v7 + 1)), (8, .int (r11 * r15)), (0, .ref 0), (1, .int k1), (2, .int k2), (3, .int k3), (4, .int k4), (5, .int k5), (6, .int v6)]) dX10_luck_164 rfl (by decide) (Nat.le_of_ble_eq_true rfl) rfl ?_
            refine wp_goto (tgt := 60) dX10_luck_167 (by decide) ?_
            exact wp_pick (ks := [2, 3, 4, 5, 6, 7, 8, 0]) rfl (ih _ _ _ h kx)
          · have h := ite_f hc21 h
            refine wp_iload dX10_luck_157 rfl ?_
            refine wp_iload dX10_luck_159 rfl ?_
            refine wp_iadd dX10_luck_161 ?_
            refine wp_istore (ls' := [(6, .int (v6 + (r11 * r15))), (8, .int (r11 * r15)), (0, .ref 0), (1, .int k1), (2, .int k2), (3, .int k3), (4, .int k4), (5, .int k5), (7, .int v7)]) dX10_luck_162 (Nat.le_of_ble_eq_true rfl) rfl ?_
            refine wp_iinc (v := 1) (ls' := [(7, .int (v7 + 1)), (6, .int (v6 + (r11 * r15))), (8, .int (r11 * r15)), (0, .ref 0), (1, .int k1), (2, .int k2), (3, .int k3), (4, .int k4), (5, .int k5)]) dX10_luck_164 rfl (by decide) (Nat.le_of_ble_eq_true rfl) rfl ?_
            refine wp_goto (tgt := 60) dX10_luck_167 (by decide) ?_
            exact wp_pick (ks := [3, 4, 5, 6, 7, 8, 1, 0]) rfl (ih _ _ _ h kx)
      · have h := ite_f hc8 h
        refine wp_goto (tgt := 164) dX10_luck_77 (by decide) ?_
        refine wp_iinc (v := 1) (ls' := [(7, .int (v7 + 1)), (0, .ref 0), (1, .int k1), (2, .int k2), (3, .int k3), (4, .int k4), (5, .int k5), (6, .int v6)]) dX10_luck_164 rfl (by decide) (Nat.le_of_ble_eq_true rfl) rfl ?_
        refine wp_goto (tgt := 60) dX10_luck_167 (by decide) ?_
        exact wp_pick (ks := [1, 2, 3, 4, 5, 6, 7, 0]) rfl (ih _ _ _ h kx)
set_option maxHeartbeats 4000000 in
set_option maxRecDepth 100000 in
theorem ct_X10_luck (N : Nat) (d : Nat) (hd : 10 ≤ d) {S : gS} {J : gJ} (hS : Sh S)  {a2 : Int32} {a3 : Int32} {I : gI} {r : (Int32 ⊕ String)} (h : mX10_luck N a2 a3 I = some r) : Ct yX10_luck (wsY yX10_luck cX10_luck 9 (some .int)) d 2 12 [.ref 0, .int a2, .int a3] S I J (qE (oI r) S I J) := by
  refine Ct.of hF (fun _ _ _ _ _ => trivial) (by decide +kernel) (Nat.le_of_ble_eq_true rfl) ⟨Or.inl (sn0 hS), trivial, trivial, trivial⟩ ?_
  show Wp RX10 cX10_luck 9 (some .int) [] hF d 2 12 0 [(0, .ref 0), (1, .int a2), (2, .int a3)] [] S I J _
  unfold mX10_luck at h
  refine wp_aload_n dX10_luck_0 rfl rfl ?_
  refine wp_iload_n dX10_luck_1 rfl rfl ?_
  rcases lbi h with ⟨⟨⟩, hF2, h⟩ | ⟨E25, hF2, h⟩
  · refine wp_callVv (ci := 10) (As := [.int a2]) dX10_luck_2 lbX10_checkTunnel mlX10_246 imX10_checkTunnel seX10_checkTunnel vc10 (ct_X10_checkTunnel 9 (Nat.le_refl _) hS  hF2) rfl rfl (Nat.le_trans (by decide) hd) (sk0 hS) (sn0 hS) (Nat.le_of_ble_eq_true rfl) (fun _ => ?_)
    refine wp_iload_n dX10_luck_5 rfl rfl ?_
    refine wp_if_lt (tgt := 15) dX10_luck_6 (by decide) (fun hc3 => ?_) (fun hc3 => ?_)
    · have h := ite_t hc3 h
      exact wp_throwWA (i := 16) dX10_luck_15 dX10_luck_18 dX10_luck_19 dX10_luck_22 dX10_luck_25 rfl clX10_101 rfl (Nat.le_trans (by decide) hd) (by obtain rfl := sji h; exact ⟨rfl, rfl, rfl, rfl⟩)
    · have h := ite_f hc3 h
      refine wp_iload_n dX10_luck_9 rfl rfl ?_
      refine wp_bipush (v := 10) dX10_luck_10 (by decide) ?_
      refine wp_icmp_le (tgt := 26) dX10_luck_12 (by decide) (fun hc4 => ?_) (fun hc4 => ?_)
      · have h := ite_t hc4 h
        refine wp_aload_n dX10_luck_26 rfl rfl ?_
        refine wp_getR dX10_luck_27 flX10_58 rfl (sk0 hS) (sn0 hS) (sr0_12 hS) ?_
        refine wp_iload_n dX10_luck_30 rfl rfl ?_
        obtain ⟨r5, hF6, h⟩ := obi h
        refine wp_callVNi (ci := 2) (As := [.int a2]) dX10_luck_31 lbX2_openTo mnX10_343 imX2_openTo seX2_openTo vc2 (ct_X2_openTo N 0 (Nat.le_refl _) hS (le42 hS) hF6) rfl rfl (Nat.le_trans (by decide) hd) (sk42 hS) (sn42 hS) (Nat.le_of_ble_eq_true rfl) (fun _ => ?_)
        refine wp_istore_n (ls' := [(3, .int r5), (0, .ref 0), (1, .int a2), (2, .int a3)]) dX10_luck_34 rfl (Nat.le_of_ble_eq_true rfl) rfl ?_
        refine wp_sipush (v := 256) dX10_luck_35 (by decide) ?_
        refine wp_istore (ls' := [(4, .int 256), (3, .int r5), (0, .ref 0), (1, .int a2), (2, .int a3)]) dX10_luck_38 (Nat.le_of_ble_eq_true rfl) rfl ?_
        refine wp_aload_n dX10_luck_40 rfl rfl ?_
        refine wp_getR dX10_luck_41 flX10_46 rfl (sk0 hS) (sn0 hS) (sr0_10 hS) ?_
        refine wp_getI dX10_luck_44 flX10_145 rfl (sk36 hS) (sn36 hS) ?_
        refine wp_iload dX10_luck_47 rfl ?_
        refine wp_iconst (v := 1) dX10_luck_49 (by decide) ?_
        refine wp_isub dX10_luck_50 ?_
        refine wp_iand dX10_luck_51 ?_
        refine wp_istore (ls' := [(5, .int ((I 36 2) &&& (256 - 1))), (4, .int 256), (3, .int r5), (0, .ref 0), (1, .int a2), (2, .int a3)]) dX10_luck_52 (Nat.le_of_ble_eq_true rfl) rfl ?_
        refine wp_iconst (v := 0) dX10_luck_54 (by decide) ?_
        refine wp_istore (ls' := [(6, .int 0), (5, .int ((I 36 2) &&& (256 - 1))), (4, .int 256), (3, .int r5), (0, .ref 0), (1, .int a2), (2, .int a3)]) dX10_luck_55 (Nat.le_of_ble_eq_true rfl) rfl ?_
        refine wp_iconst (v := 0) dX10_luck_57 (by decide) ?_
        refine wp_istore (ls' := [(7, .int 0), (6, .int 0), (5, .int ((I 36 2) &&& (256 - 1))), (4, .int 256), (3, .int r5), (0, .ref 0), (1, .int a2), (2, .int a3)]) dX10_luck_58 (Nat.le_of_ble_eq_true rfl) rfl ?_
        obtain ⟨y22, hL923, h⟩ := obi h
        refine wp_pick (ks := [5, 6, 7, 4, 3, 2, 1, 0]) rfl (wX10_luck_60 N d hd hS  a2 a3 r5 256 ((I 36 2) &&& (256 - 1)) I N 0 0 _ hL923 (fun _ e24 => ?_))
        cases e24
        refine wp_iload dX10_luck_170 rfl ?_
        exact wp_iret dX10_luck_172 rfl (by obtain rfl := sji h; exact ⟨rfl, rfl, rfl, rfl⟩)
      · have h := ite_f hc4 h
        exact wp_throwWA (i := 16) dX10_luck_15 dX10_luck_18 dX10_luck_19 dX10_luck_22 dX10_luck_25 rfl clX10_101 rfl (Nat.le_trans (by decide) hd) (by obtain rfl := sji h; exact ⟨rfl, rfl, rfl, rfl⟩)
  · exact wp_callVx (ci := 10) (As := [.int a2]) dX10_luck_2 lbX10_checkTunnel mlX10_246 imX10_checkTunnel seX10_checkTunnel vc10 (ct_X10_checkTunnel 9 (Nat.le_refl _) hS  hF2) rfl rfl (Nat.le_trans (by decide) hd) (sk0 hS) (sn0 hS) (Nat.le_of_ble_eq_true rfl) rfl (by obtain rfl := sji h; exact ⟨rfl, rfl, rfl, rfl⟩)
