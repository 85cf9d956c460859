def Steps9 (N : Nat) (Inv : Nat → gI → Prop) : Prop := St_feed N Inv ∧ St_network N Inv ∧ St_fault N Inv ∧ St_count N Inv ∧ St_link N Inv ∧ St_pool N Inv ∧ St_tunnel N Inv ∧ St_way N Inv ∧ St_best N Inv ∧ St_pushes N Inv ∧ St_setUp N Inv ∧ St_tearDown N Inv ∧ St_move N Inv ∧ St_resize N Inv ∧ St_fail N Inv ∧ St_mend N Inv ∧ St_undo N Inv ∧ St_planned N Inv ∧ St_order N Inv ∧ St_toBreak N Inv ∧ St_widest N Inv ∧ St_apart N Inv ∧ St_cuts N Inv ∧ St_flow N Inv ∧ St_distance N Inv ∧ St_room N Inv ∧ St_saved N Inv ∧ St_see N Inv ∧ St_forget N Inv ∧ St_other N Inv ∧ St_luck N Inv ∧ St_years N Inv ∧ St_image N Inv ∧ St_restore N Inv ∧ ∀ c I, Inv c I → Inv (c + 1) I
theorem law_sub {L : Nat} (hL : L ≤ 3072) : (Int32.ofNat L - 6).toInt = (L : Int) - 6 := by
  rw [Int32.toInt_sub, Int32.toInt_ofNat_of_lt (by omega)]
  show ((L : Int) - 6).bmod (2 ^ 32) = _
  rw [Int.bmod_def]
  omega
theorem law_lt {L i : Nat} (hL : L ≤ 3072) (hi : i ≤ 4000) : Int32.ofNat L - 6 < Int32.ofNat i ↔ L < i + 6 := by
  rw [Int32.lt_iff_toInt_lt, law_sub hL, Int32.toInt_ofNat_of_lt (by omega)]
  omega
theorem law_exit {L : Nat} {xs : Nat → Int32} (d : Nat) {rc rs i : Nat} {S : gS} {I : gI} {J : gJ} (h : i ≤ 4000 ∧ L < i + 6) (hL : L ≤ 3072) : Wp RL cL_law 7 (some .boolean) [] (hLw L xs) d rc rs 23 [(0, .ref (gSB + 300)), (1, .ref 0), (2, .ref 310), (3, .ref 337), (4, .int (Int32.ofNat i))] [] S I J QL := by
  refine wp_iload dL_law_23 rfl ?_
  refine wp_aload_n dL_law_25 rfl rfl ?_
  refine wp_slen dL_law_26 ?_
  refine wp_bipush (v := 6) dL_law_27 (by decide) ?_
  refine wp_isub dL_law_29 ?_
  refine wp_icmp_gt (tgt := 2139) dL_law_30 (by decide) (fun _ => ?_) (fun hc => absurd ((law_lt hL h.1).mpr h.2) hc)
  refine wp_iconst (v := 1) dL_law_2139 (by decide) ?_
  exact wp_zret dL_law_2140 rfl (Or.inr rfl) rfl
set_option maxHeartbeats 4000000 in
set_option maxRecDepth 100000 in
theorem law_loop (N : Nat) {L : Nat} {xs : Nat → Int32} (hL : L ≤ 3072) {Inv : Nat → gI → Prop} (hst : Steps9 N Inv) (d : Nat) (hd : 40 ≤ d) : ∀ (n c : Nat) (S : gS) (I : gI) (J : gJ), (c + n = 512) → Sh S → Inv c I →
    Wp RL cL_law 7 (some .boolean) [] (hLw L xs) d (3 * n) (18 * n) 23 [(0, .ref (gSB + 300)), (1, .ref 0), (2, .ref 310), (3, .ref 337), (4, .int (Int32.ofNat (6 * c)))] [] S I J QL := by
  intro n
  induction n with
  | zero =>
    intro c S I J hn hS hI
    refine law_exit d ?_ hL
    omega
  | succ n ih =>
    intro c S I J hn hS hI
    by_cases hlt : 6 * c + 6 ≤ L
    · have hc : c < 512 := by omega
      have kk : ∀ S' I' J', Sh S' → Inv (c + 1) I' → Wp RL cL_law 7 (some .boolean) [] (hLw L xs) d (3 * n) (18 * n) 2133 [(0, .ref (gSB + 300)), (1, .ref 0), (2, .ref 310), (3, .ref 337), (4, .int (Int32.ofNat (6 * c)))] [] S' I' J' QL := by
        intro S' I' J' hS' hI'
        refine wp_iinc (v := 6) (ls' := [(4, .int (Int32.ofNat (6 * (c + 1)))), (0, .ref (gSB + 300)), (1, .ref 0), (2, .ref 310), (3, .ref 337)]) dL_law_2133 rfl (by decide) (Nat.le_of_ble_eq_true rfl) (by rw [show 6 * (c + 1) = 6 * c + 6 by omega, Int32.ofNat_add]; rfl) ?_
        refine wp_goto (tgt := 23) dL_law_2136 (by decide) ?_
        exact wp_pick (ks := [1, 2, 3, 4, 0]) rfl (ih (c + 1) S' I' J' (by omega) hS' hI')
      refine wp_iload dL_law_23 rfl ?_
      refine wp_aload_n dL_law_25 rfl rfl ?_
      refine wp_slen dL_law_26 ?_
      refine wp_bipush (v := 6) dL_law_27 (by decide) ?_
      refine wp_isub dL_law_29 ?_
      refine wp_icmp_gt (tgt := 2139) dL_law_30 (by decide) (fun hc9 => absurd ((law_lt hL (by omega)).mp hc9) (by omega)) (fun _ => ?_)
      refine wp_aload_n dL_law_33 rfl rfl ?_
      refine wp_iload dL_law_34 rfl ?_
      refine wp_sld dL_law_36 (ofN_in (by omega) (by omega)) ?_
      refine wp_bipush (v := 63) dL_law_37 (by decide) ?_
      refine wp_iand dL_law_39 ?_
      generalize xs (Int32.ofNat (6 * c)).toNatClampNeg &&& 63 = q9
      by_cases e0 : q9 = 0
      · refine wp_tableIn (off := 152) (tgt := 192) dL_law_40 (by rw [e0]; decide) (by rw [e0]; decide) (by rw [e0]; decide +kernel) (by decide) ?_
        exact wp_less (by omega) (by omega) (lc_feed (hst.1) d hd (by omega) hL hS hc hI kk)
      · by_cases e1 : q9 = 1
        · refine wp_tableIn (off := 225) (tgt := 265) dL_law_40 (by rw [e1]; decide) (by rw [e1]; decide) (by rw [e1]; decide +kernel) (by decide) ?_
          exact wp_less (by omega) (by omega) (lc_network (hst.2.1) d hd (by omega) hL hS hc hI kk)
        · by_cases e2 : q9 = 2
          · refine wp_tableIn (off := 281) (tgt := 321) dL_law_40 (by rw [e2]; decide) (by rw [e2]; decide) (by rw [e2]; decide +kernel) (by decide) ?_
            exact wp_less (by omega) (by omega) (lc_fault (hst.2.2.1) d hd (by omega) hL hS hc hI kk)
          · by_cases e3 : q9 = 3
            · refine wp_tableIn (off := 294) (tgt := 334) dL_law_40 (by rw [e3]; decide) (by rw [e3]; decide) (by rw [e3]; decide +kernel) (by decide) ?_
              exact wp_less (by omega) (by omega) (lc_count (hst.2.2.2.1) d hd (by omega) hL hS hc hI kk)
            · by_cases e4 : q9 = 4
              · refine wp_tableIn (off := 350) (tgt := 390) dL_law_40 (by rw [e4]; decide) (by rw [e4]; decide) (by rw [e4]; decide +kernel) (by decide) ?_
                exact wp_less (by omega) (by omega) (lc_link (hst.2.2.2.2.1) d hd (by omega) hL hS hc hI kk)
              · by_cases e5 : q9 = 5
                · refine wp_tableIn (off := 418) (tgt := 458) dL_law_40 (by rw [e5]; decide) (by rw [e5]; decide) (by rw [e5]; decide +kernel) (by decide) ?_
                  exact wp_less (by omega) (by omega) (lc_pool (hst.2.2.2.2.2.1) d hd (by omega) hL hS hc hI kk)
                · by_cases e6 : q9 = 6
                  · refine wp_tableIn (off := 486) (tgt := 526) dL_law_40 (by rw [e6]; decide) (by rw [e6]; decide) (by rw [e6]; decide +kernel) (by decide) ?_
                    exact wp_less (by omega) (by omega) (lc_tunnel (hst.2.2.2.2.2.2.1) d hd (by omega) hL hS hc hI kk)
                  · by_cases e7 : q9 = 7
                    · refine wp_tableIn (off := 554) (tgt := 594) dL_law_40 (by rw [e7]; decide) (by rw [e7]; decide) (by rw [e7]; decide +kernel) (by decide) ?_
                      exact wp_less (by omega) (by omega) (lc_way (hst.2.2.2.2.2.2.2.1) d hd (by omega) hL hS hc hI kk)
                    · by_cases e8 : q9 = 8
                      · refine wp_tableIn (off := 622) (tgt := 662) dL_law_40 (by rw [e8]; decide) (by rw [e8]; decide) (by rw [e8]; decide +kernel) (by decide) ?_
                        exact wp_less (by omega) (by omega) (lc_best (hst.2.2.2.2.2.2.2.2.1) d hd (by omega) hL hS hc hI kk)
                      · by_cases e9 : q9 = 9
                        · refine wp_tableIn (off := 690) (tgt := 730) dL_law_40 (by rw [e9]; decide) (by rw [e9]; decide) (by rw [e9]; decide +kernel) (by decide) ?_
                          exact wp_less (by omega) (by omega) (lc_pushes (hst.2.2.2.2.2.2.2.2.2.1) d hd (by omega) hL hS hc hI kk)
                        · by_cases e10 : q9 = 10
                          · refine wp_tableIn (off := 758) (tgt := 798) dL_law_40 (by rw [e10]; decide) (by rw [e10]; decide) (by rw [e10]; decide +kernel) (by decide) ?_
                            exact wp_less (by omega) (by omega) (lc_setUp (hst.2.2.2.2.2.2.2.2.2.2.1) d hd (by omega) hL hS hc hI kk)
                          · by_cases e11 : q9 = 11
                            · refine wp_tableIn (off := 814) (tgt := 854) dL_law_40 (by rw [e11]; decide) (by rw [e11]; decide) (by rw [e11]; decide +kernel) (by decide) ?_
                              exact wp_less (by omega) (by omega) (lc_tearDown (hst.2.2.2.2.2.2.2.2.2.2.2.1) d hd (by omega) hL hS hc hI kk)
                            · by_cases e12 : q9 = 12
                              · refine wp_tableIn (off := 877) (tgt := 917) dL_law_40 (by rw [e12]; decide) (by rw [e12]; decide) (by rw [e12]; decide +kernel) (by decide) ?_
                                exact wp_less (by omega) (by omega) (lc_move (hst.2.2.2.2.2.2.2.2.2.2.2.2.1) d hd (by omega) hL hS hc hI kk)
                              · by_cases e13 : q9 = 13
                                · refine wp_tableIn (off := 933) (tgt := 973) dL_law_40 (by rw [e13]; decide) (by rw [e13]; decide) (by rw [e13]; decide +kernel) (by decide) ?_
                                  exact wp_less (by omega) (by omega) (lc_resize (hst.2.2.2.2.2.2.2.2.2.2.2.2.2.1) d hd (by omega) hL hS hc hI kk)
                                · by_cases e14 : q9 = 14
                                  · refine wp_tableIn (off := 1001) (tgt := 1041) dL_law_40 (by rw [e14]; decide) (by rw [e14]; decide) (by rw [e14]; decide +kernel) (by decide) ?_
                                    exact wp_less (by omega) (by omega) (lc_fail (hst.2.2.2.2.2.2.2.2.2.2.2.2.2.2.1) d hd (by omega) hL hS hc hI kk)
                                  · by_cases e15 : q9 = 15
                                    · refine wp_tableIn (off := 1057) (tgt := 1097) dL_law_40 (by rw [e15]; decide) (by rw [e15]; decide) (by rw [e15]; decide +kernel) (by decide) ?_
                                      exact wp_less (by omega) (by omega) (lc_mend (hst.2.2.2.2.2.2.2.2.2.2.2.2.2.2.2.1) d hd (by omega) hL hS hc hI kk)
                                    · by_cases e16 : q9 = 16
                                      · refine wp_tableIn (off := 1120) (tgt := 1160) dL_law_40 (by rw [e16]; decide) (by rw [e16]; decide) (by rw [e16]; decide +kernel) (by decide) ?_
                                        exact wp_less (by omega) (by omega) (lc_undo (hst.2.2.2.2.2.2.2.2.2.2.2.2.2.2.2.2.1) d hd (by omega) hL hS hc hI kk)
                                      · by_cases e17 : q9 = 17
                                        · refine wp_tableIn (off := 1133) (tgt := 1173) dL_law_40 (by rw [e17]; decide) (by rw [e17]; decide) (by rw [e17]; decide +kernel) (by decide) ?_
                                          exact wp_less (by omega) (by omega) (lc_planned (hst.2.2.2.2.2.2.2.2.2.2.2.2.2.2.2.2.2.1) d hd (by omega) hL hS hc hI kk)
                                        · by_cases e18 : q9 = 18
                                          · refine wp_tableIn (off := 1201) (tgt := 1241) dL_law_40 (by rw [e18]; decide) (by rw [e18]; decide) (by rw [e18]; decide +kernel) (by decide) ?_
                                            exact wp_less (by omega) (by omega) (lc_order (hst.2.2.2.2.2.2.2.2.2.2.2.2.2.2.2.2.2.2.1) d hd (by omega) hL hS hc hI kk)
                                          · by_cases e19 : q9 = 19
                                            · refine wp_tableIn (off := 1257) (tgt := 1297) dL_law_40 (by rw [e19]; decide) (by rw [e19]; decide) (by rw [e19]; decide +kernel) (by decide) ?_
                                              exact wp_less (by omega) (by omega) (lc_toBreak (hst.2.2.2.2.2.2.2.2.2.2.2.2.2.2.2.2.2.2.2.1) d hd (by omega) hL hS hc hI kk)
                                            · by_cases e20 : q9 = 20
                                              · refine wp_tableIn (off := 1270) (tgt := 1310) dL_law_40 (by rw [e20]; decide) (by rw [e20]; decide) (by rw [e20]; decide +kernel) (by decide) ?_
                                                exact wp_less (by omega) (by omega) (lc_widest (hst.2.2.2.2.2.2.2.2.2.2.2.2.2.2.2.2.2.2.2.2.1) d hd (by omega) hL hS hc hI kk)
                                              · by_cases e21 : q9 = 21
                                                · refine wp_tableIn (off := 1350) (tgt := 1390) dL_law_40 (by rw [e21]; decide) (by rw [e21]; decide) (by rw [e21]; decide +kernel) (by decide) ?_
                                                  exact wp_less (by omega) (by omega) (lc_apart (hst.2.2.2.2.2.2.2.2.2.2.2.2.2.2.2.2.2.2.2.2.2.1) d hd (by omega) hL hS hc hI kk)
                                                · by_cases e22 : q9 = 22
                                                  · refine wp_tableIn (off := 1406) (tgt := 1446) dL_law_40 (by rw [e22]; decide) (by rw [e22]; decide) (by rw [e22]; decide +kernel) (by decide) ?_
                                                    exact wp_less (by omega) (by omega) (lc_cuts (hst.2.2.2.2.2.2.2.2.2.2.2.2.2.2.2.2.2.2.2.2.2.2.1) d hd (by omega) hL hS hc hI kk)
                                                  · by_cases e23 : q9 = 23
                                                    · refine wp_tableIn (off := 1474) (tgt := 1514) dL_law_40 (by rw [e23]; decide) (by rw [e23]; decide) (by rw [e23]; decide +kernel) (by decide) ?_
                                                      exact wp_less (by omega) (by omega) (lc_flow (hst.2.2.2.2.2.2.2.2.2.2.2.2.2.2.2.2.2.2.2.2.2.2.2.1) d hd (by omega) hL hS hc hI kk)
                                                    · by_cases e24 : q9 = 24
                                                      · refine wp_tableIn (off := 1554) (tgt := 1594) dL_law_40 (by rw [e24]; decide) (by rw [e24]; decide) (by rw [e24]; decide +kernel) (by decide) ?_
                                                        exact wp_less (by omega) (by omega) (lc_distance (hst.2.2.2.2.2.2.2.2.2.2.2.2.2.2.2.2.2.2.2.2.2.2.2.2.1) d hd (by omega) hL hS hc hI kk)
                                                      · by_cases e25 : q9 = 25
                                                        · refine wp_tableIn (off := 1622) (tgt := 1662) dL_law_40 (by rw [e25]; decide) (by rw [e25]; decide) (by rw [e25]; decide +kernel) (by decide) ?_
                                                          exact wp_less (by omega) (by omega) (lc_room (hst.2.2.2.2.2.2.2.2.2.2.2.2.2.2.2.2.2.2.2.2.2.2.2.2.2.1) d hd (by omega) hL hS hc hI kk)
                                                        · by_cases e26 : q9 = 26
                                                          · refine wp_tableIn (off := 1678) (tgt := 1718) dL_law_40 (by rw [e26]; decide) (by rw [e26]; decide) (by rw [e26]; decide +kernel) (by decide) ?_
                                                            exact wp_less (by omega) (by omega) (lc_saved (hst.2.2.2.2.2.2.2.2.2.2.2.2.2.2.2.2.2.2.2.2.2.2.2.2.2.2.1) d hd (by omega) hL hS hc hI kk)
                                                          · by_cases e27 : q9 = 27
                                                            · refine wp_tableIn (off := 1734) (tgt := 1774) dL_law_40 (by rw [e27]; decide) (by rw [e27]; decide) (by rw [e27]; decide +kernel) (by decide) ?_
                                                              exact wp_less (by omega) (by omega) (lc_see (hst.2.2.2.2.2.2.2.2.2.2.2.2.2.2.2.2.2.2.2.2.2.2.2.2.2.2.2.1) d hd (by omega) hL hS hc hI kk)
                                                            · by_cases e28 : q9 = 28
                                                              · refine wp_tableIn (off := 1854) (tgt := 1894) dL_law_40 (by rw [e28]; decide) (by rw [e28]; decide) (by rw [e28]; decide +kernel) (by decide) ?_
                                                                exact wp_less (by omega) (by omega) (lc_forget (hst.2.2.2.2.2.2.2.2.2.2.2.2.2.2.2.2.2.2.2.2.2.2.2.2.2.2.2.2.1) d hd (by omega) hL hS hc hI kk)
                                                              · by_cases e29 : q9 = 29
                                                                · refine wp_tableIn (off := 1865) (tgt := 1905) dL_law_40 (by rw [e29]; decide) (by rw [e29]; decide) (by rw [e29]; decide +kernel) (by decide) ?_
                                                                  exact wp_less (by omega) (by omega) (lc_other (hst.2.2.2.2.2.2.2.2.2.2.2.2.2.2.2.2.2.2.2.2.2.2.2.2.2.2.2.2.2.1) d hd (by omega) hL hS hc hI kk)
                                                                · by_cases e30 : q9 = 30
                                                                  · refine wp_tableIn (off := 1921) (tgt := 1961) dL_law_40 (by rw [e30]; decide) (by rw [e30]; decide) (by rw [e30]; decide +kernel) (by decide) ?_
                                                                    exact wp_less (by omega) (by omega) (lc_luck (hst.2.2.2.2.2.2.2.2.2.2.2.2.2.2.2.2.2.2.2.2.2.2.2.2.2.2.2.2.2.2.1) d hd (by omega) hL hS hc hI kk)
                                                                  · by_cases e31 : q9 = 31
                                                                    · refine wp_tableIn (off := 1989) (tgt := 2029) dL_law_40 (by rw [e31]; decide) (by rw [e31]; decide) (by rw [e31]; decide +kernel) (by decide) ?_
                                                                      exact wp_less (by omega) (by omega) (lc_years (hst.2.2.2.2.2.2.2.2.2.2.2.2.2.2.2.2.2.2.2.2.2.2.2.2.2.2.2.2.2.2.2.1) d hd (by omega) hL hS hc hI kk)
                                                                    · by_cases e32 : q9 = 32
                                                                      · refine wp_tableIn (off := 2069) (tgt := 2109) dL_law_40 (by rw [e32]; decide) (by rw [e32]; decide) (by rw [e32]; decide +kernel) (by decide) ?_
                                                                        exact wp_less (by omega) (by omega) (lc_image (hst.2.2.2.2.2.2.2.2.2.2.2.2.2.2.2.2.2.2.2.2.2.2.2.2.2.2.2.2.2.2.2.2.1) d hd (by omega) hL hS hc hI kk)
                                                                      · by_cases e33 : q9 = 33
                                                                        · refine wp_tableIn (off := 2080) (tgt := 2120) dL_law_40 (by rw [e33]; decide) (by rw [e33]; decide) (by rw [e33]; decide +kernel) (by decide) ?_
                                                                          exact wp_less (by omega) (by omega) (lc_restore (hst.2.2.2.2.2.2.2.2.2.2.2.2.2.2.2.2.2.2.2.2.2.2.2.2.2.2.2.2.2.2.2.2.2.1) d hd (by omega) hL hS hc hI kk)
                                                                        · have hs9 : q9.toInt < 0 ∨ 33 < q9.toInt := by
                                                                            by_cases q8 : q9.toInt < 0 ∨ 33 < q9.toInt
                                                                            · exact q8
                                                                            · exfalso
                                                                              rcases (show q9.toInt = 0 ∨ q9.toInt = 1 ∨ q9.toInt = 2 ∨ q9.toInt = 3 ∨ q9.toInt = 4 ∨ q9.toInt = 5 ∨ q9.toInt = 6 ∨ q9.toInt = 7 ∨ q9.toInt = 8 ∨ q9.toInt = 9 ∨ q9.toInt = 10 ∨ q9.toInt = 11 ∨ q9.toInt = 12 ∨ q9.toInt = 13 ∨ q9.toInt = 14 ∨ q9.toInt = 15 ∨ q9.toInt = 16 ∨ q9.toInt = 17 ∨ q9.toInt = 18 ∨ q9.toInt = 19 ∨ q9.toInt = 20 ∨ q9.toInt = 21 ∨ q9.toInt = 22 ∨ q9.toInt = 23 ∨ q9.toInt = 24 ∨ q9.toInt = 25 ∨ q9.toInt = 26 ∨ q9.toInt = 27 ∨ q9.toInt = 28 ∨ q9.toInt = 29 ∨ q9.toInt = 30 ∨ q9.toInt = 31 ∨ q9.toInt = 32 ∨ q9.toInt = 33 by omega) with q7 | q7 | q7 | q7 | q7 | q7 | q7 | q7 | q7 | q7 | q7 | q7 | q7 | q7 | q7 | q7 | q7 | q7 | q7 | q7 | q7 | q7 | q7 | q7 | q7 | q7 | q7 | q7 | q7 | q7 | q7 | q7 | q7 | q7
                                                                              · exact e0 (i32e q7)
                                                                              · exact e1 (i32e q7)
                                                                              · exact e2 (i32e q7)
                                                                              · exact e3 (i32e q7)
                                                                              · exact e4 (i32e q7)
                                                                              · exact e5 (i32e q7)
                                                                              · exact e6 (i32e q7)
                                                                              · exact e7 (i32e q7)
                                                                              · exact e8 (i32e q7)
                                                                              · exact e9 (i32e q7)
                                                                              · exact e10 (i32e q7)
                                                                              · exact e11 (i32e q7)
                                                                              · exact e12 (i32e q7)
                                                                              · exact e13 (i32e q7)
                                                                              · exact e14 (i32e q7)
                                                                              · exact e15 (i32e q7)
                                                                              · exact e16 (i32e q7)
                                                                              · exact e17 (i32e q7)
                                                                              · exact e18 (i32e q7)
                                                                              · exact e19 (i32e q7)
                                                                              · exact e20 (i32e q7)
                                                                              · exact e21 (i32e q7)
                                                                              · exact e22 (i32e q7)
                                                                              · exact e23 (i32e q7)
                                                                              · exact e24 (i32e q7)
                                                                              · exact e25 (i32e q7)
                                                                              · exact e26 (i32e q7)
                                                                              · exact e27 (i32e q7)
                                                                              · exact e28 (i32e q7)
                                                                              · exact e29 (i32e q7)
                                                                              · exact e30 (i32e q7)
                                                                              · exact e31 (i32e q7)
                                                                              · exact e32 (i32e q7)
                                                                              · exact e33 (i32e q7)
                                                                          refine wp_tableOut (tgt := 2133) dL_law_40 hs9 (by decide) ?_
                                                                          exact wp_less (by omega) (by omega) (kk S I J hS (hst.2.2.2.2.2.2.2.2.2.2.2.2.2.2.2.2.2.2.2.2.2.2.2.2.2.2.2.2.2.2.2.2.2.2 c I hI))
    · refine law_exit d ?_ hL
      omega
