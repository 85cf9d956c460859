def mX1_tryFirst_76 (N : Nat) (t1 : Nat) (rc : Int32 → Int32 → Int32 → Int32 → Int32 → gI → Option (gI)) (k1 : Int32) (k2 : Int32) (k3 : Int32) (k4 : Int32) (k5 : Int32) : Nat → Int32 → gI → Option (gI)
  | 0, _, _ => none
  | n + 1, v6, I => if (I 2 1) ≤ v6 then (some I) else (ck v6 16 (Option.bind (if ((ushr (I t1 2) v6) &&& 1) = 0 then (some 0) else (if (I 3 v6.toNatClampNeg) = k2 then (some 1) else (some 0)) : Option (Int32)) (fun x8 => if x8 = 0 then (mX1_tryFirst_76 N t1 rc k1 k2 k3 k4 k5 n (v6 + 1) I) else (if ((ushr k3 (I 4 v6.toNatClampNeg)) &&& 1) = 0 then (Option.bind (rc k1 (I 4 v6.toNatClampNeg) (k3 ||| ((1 : Int32) <<< ((I 4 v6.toNatClampNeg) &&& 31))) (k4 ||| ((1 : Int32) <<< (v6 &&& 31))) (k5 + (I 5 v6.toNatClampNeg)) I) (fun I13 => mX1_tryFirst_76 N t1 rc k1 k2 k3 k4 k5 n (v6 + 1) I13)) else (mX1_tryFirst_76 N t1 rc k1 k2 k3 k4 k5 n (v6 + 1) I)))))
def mX1_tryFirst (N : Nat) (t1 : Nat) : Nat → Int32 → Int32 → Int32 → Int32 → Int32 → gI → Option (gI)
  | 0, _, _, _, _, _, _ => none
  | D + 1, a2, a3, a4, a5, a6, I => if (2 * a6) < (I t1 5) then (if a3 = (I t1 3) then (Option.bind (mX6_leastMetric N ((I t1 2) &&& (a5 ^^^ (-1))) a2 (I t1 3) (I t1 4) I) (fun (r19, I20) => some (upd2 I20 t1 5 (if (a6 + r19) < (I t1 5) then (a6 + r19) else (I t1 5))))) else (Option.bind (mJ6_bitCount_0f7a4 a5 I) (fun r3 => if r3 < (I t1 4) then (Option.bind (mX1_tryFirst_76 N t1 (mX1_tryFirst N t1 D) a2 a3 a4 a5 a6 N 0 I) (fun I16 => some I16)) else (some I)))) else (some I)
set_option maxHeartbeats 4000000 in
set_option maxRecDepth 100000 in
theorem wX1_tryFirst_76 (N : Nat) (d : Nat) (hd : 2 ≤ d) {S : gS} {J : gJ} (hS : Sh S) (t1 : Nat) (hL1 : IsAp S t1) (rc : Int32 → Int32 → Int32 → Int32 → Int32 → gI → Option (gI)) (e : Nat) (he : e + 1 ≤ d) (hrc : ∀ {a2 : Int32} {a3 : Int32} {a4 : Int32} {a5 : Int32} {a6 : Int32} {I : gI} {r : gI}, rc a2 a3 a4 a5 a6 I = some r → Ct yX1_tryFirst (wsY yX1_tryFirst cX1_tryFirst 9 none) e 0 0 [.ref t1, .int a2, .int a3, .int a4, .int a5, .int a6] S I J (qE (.inl none) S r J)) (k1 : Int32) (k2 : Int32) (k3 : Int32) (k4 : Int32) (k5 : Int32) {Q : gO → gS → gI → gJ → Prop} :
    ∀ (n : Nat) (v6 : Int32) (I : gI) (res : gI), mX1_tryFirst_76 N t1 rc k1 k2 k3 k4 k5 n v6 I = some res → (∀ (O : gI), res = O → Wp RX1 cX1_tryFirst 9 none [] hF d 0 0 186 [] [] S O J Q) → Wp RX1 cX1_tryFirst 9 none [] hF d 0 0 76 [(0, .ref t1), (1, .int k1), (2, .int k2), (3, .int k3), (4, .int k4), (5, .int k5), (6, .int v6)] [] S I J Q := by
  intro n
  induction n with
  | zero => intro v6 I res h; exact nso h
  | succ n ih =>
    intro v6 I res h kx
    rw [mX1_tryFirst_76] at h
    refine wp_iload dX1_tryFirst_76 rfl ?_
    refine wp_aload_n dX1_tryFirst_78 rfl rfl ?_
    refine wp_getR dX1_tryFirst_79 flX1_16 rfl hL1.1 hL1.2.1 hL1.2.2.1 ?_
    refine wp_getI dX1_tryFirst_82 flX1_55 rfl (sk2 hS) (sn2 hS) ?_
    refine wp_icmp_ge (tgt := 186) dX1_tryFirst_85 (by decide) (fun hc6 => ?_) (fun hc6 => ?_)
    · have h := ite_t hc6 h
      exact wp_pick (ks := []) rfl (kx _ (sji h).symm)
    · have h := ite_f hc6 h
      refine wp_aload_n dX1_tryFirst_88 rfl rfl ?_
      refine wp_getR dX1_tryFirst_89 flX1_16 rfl hL1.1 hL1.2.1 hL1.2.2.1 ?_
      refine wp_getR dX1_tryFirst_92 flX1_58 rfl (sk2 hS) (sn2 hS) (sr2_4 hS) ?_
      refine wp_iload dX1_tryFirst_95 rfl ?_
      obtain ⟨hb7, h⟩ := ck_inv h
      refine wp_iald dX1_tryFirst_97 (sk4 hS) (sn4 hS) hb7 ?_
      refine wp_istore (ls' := [(7, .int (I 4 v6.toNatClampNeg)), (0, .ref t1), (1, .int k1), (2, .int k2), (3, .int k3), (4, .int k4), (5, .int k5), (6, .int v6)]) dX1_tryFirst_98 (Nat.le_of_ble_eq_true rfl) rfl ?_
      refine wp_aload_n dX1_tryFirst_100 rfl rfl ?_
      refine wp_getI dX1_tryFirst_101 flX1_24 rfl hL1.1 hL1.2.1 ?_
      refine wp_iload dX1_tryFirst_104 rfl ?_
      refine wp_iushr dX1_tryFirst_106 ?_
      refine wp_iconst (v := 1) dX1_tryFirst_107 (by decide) ?_
      refine wp_iand dX1_tryFirst_108 ?_
      obtain ⟨x8, hh15, h⟩ := obi h
      have hJ : Wp RX1 cX1_tryFirst 9 none [] hF d 0 0 131 [(0, .ref t1), (1, .int k1), (2, .int k2), (3, .int k3), (4, .int k4), (5, .int k5), (6, .int v6), (7, .int (I 4 v6.toNatClampNeg))] [.int x8] S I J Q := by
        refine wp_istore (ls' := [(8, .int x8), (0, .ref t1), (1, .int k1), (2, .int k2), (3, .int k3), (4, .int k4), (5, .int k5), (6, .int v6), (7, .int (I 4 v6.toNatClampNeg))]) dX1_tryFirst_131 (Nat.le_of_ble_eq_true rfl) rfl ?_
        refine wp_iload dX1_tryFirst_133 rfl ?_
        refine wp_if_eq (tgt := 180) dX1_tryFirst_135 (by decide) (fun hc11 => ?_) (fun hc11 => ?_)
        · have h := ite_t hc11 h
          refine wp_iinc (v := 1) (ls' := [(6, .int (v6 + 1)), (8, .int x8), (0, .ref t1), (1, .int k1), (2, .int k2), (3, .int k3), (4, .int k4), (5, .int k5), (7, .int (I 4 v6.toNatClampNeg))]) dX1_tryFirst_180 rfl (by decide) (Nat.le_of_ble_eq_true rfl) rfl ?_
          refine wp_goto (tgt := 76) dX1_tryFirst_183 (by decide) ?_
          exact wp_pick (ks := [2, 3, 4, 5, 6, 7, 0]) rfl (ih _ _ _ h kx)
        · have h := ite_f hc11 h
          refine wp_iload_n dX1_tryFirst_138 rfl rfl ?_
          refine wp_iload dX1_tryFirst_139 rfl ?_
          refine wp_iushr dX1_tryFirst_141 ?_
          refine wp_iconst (v := 1) dX1_tryFirst_142 (by decide) ?_
          refine wp_iand dX1_tryFirst_143 ?_
          refine wp_if_ne (tgt := 180) dX1_tryFirst_144 (by decide) (fun hc12 => ?_) (fun hc12 => ?_)
          · have h := ite_f hc12 h
            refine wp_iinc (v := 1) (ls' := [(6, .int (v6 + 1)), (8, .int x8), (0, .ref t1), (1, .int k1), (2, .int k2), (3, .int k3), (4, .int k4), (5, .int k5), (7, .int (I 4 v6.toNatClampNeg))]) dX1_tryFirst_180 rfl (by decide) (Nat.le_of_ble_eq_true rfl) rfl ?_
            refine wp_goto (tgt := 76) dX1_tryFirst_183 (by decide) ?_
            exact wp_pick (ks := [2, 3, 4, 5, 6, 7, 0]) rfl (ih _ _ _ h kx)
          · have h := ite_t hc12 h
            refine wp_aload_n dX1_tryFirst_147 rfl rfl ?_
            refine wp_iload_n dX1_tryFirst_148 rfl rfl ?_
            refine wp_iload dX1_tryFirst_149 rfl ?_
            refine wp_iload_n dX1_tryFirst_151 rfl rfl ?_
            refine wp_iconst (v := 1) dX1_tryFirst_152 (by decide) ?_
            refine wp_iload dX1_tryFirst_153 rfl ?_
            refine wp_ishl dX1_tryFirst_155 ?_
            refine wp_ior dX1_tryFirst_156 ?_
            refine wp_iload dX1_tryFirst_157 rfl ?_
            refine wp_iconst (v := 1) dX1_tryFirst_159 (by decide) ?_
            refine wp_iload dX1_tryFirst_160 rfl ?_
            refine wp_ishl dX1_tryFirst_162 ?_
            refine wp_ior dX1_tryFirst_163 ?_
            refine wp_iload dX1_tryFirst_164 rfl ?_
            refine wp_aload_n dX1_tryFirst_166 rfl rfl ?_
            refine wp_getR dX1_tryFirst_167 flX1_16 rfl hL1.1 hL1.2.1 hL1.2.2.1 ?_
            refine wp_getR dX1_tryFirst_170 flX1_64 rfl (sk2 hS) (sn2 hS) (sr2_5 hS) ?_
            refine wp_iload dX1_tryFirst_173 rfl ?_
            refine wp_iald dX1_tryFirst_175 (sk5 hS) (sn5 hS) hb7 ?_
            refine wp_iadd dX1_tryFirst_176 ?_
            obtain ⟨I13, hF14, h⟩ := obi h
            refine wp_callVv (ci := 1) (As := [.int k1, .int (I 4 v6.toNatClampNeg), .int (k3 ||| ((1 : Int32) <<< ((I 4 v6.toNatClampNeg) &&& 31))), .int (k4 ||| ((1 : Int32) <<< (v6 &&& 31))), .int (k5 + (I 5 v6.toNatClampNeg))]) dX1_tryFirst_177 lbX1_tryFirst mlX1_33 imX1_tryFirst seX1_tryFirst vc1 (hrc hF14) rfl rfl he hL1.1 hL1.2.1 (Nat.le_of_ble_eq_true rfl) (fun _ => ?_)
            refine wp_iinc (v := 1) (ls' := [(6, .int (v6 + 1)), (8, .int x8), (0, .ref t1), (1, .int k1), (2, .int k2), (3, .int k3), (4, .int k4), (5, .int k5), (7, .int (I 4 v6.toNatClampNeg))]) dX1_tryFirst_180 rfl (by decide) (Nat.le_of_ble_eq_true rfl) rfl ?_
            refine wp_goto (tgt := 76) dX1_tryFirst_183 (by decide) ?_
            exact wp_pick (ks := [2, 3, 4, 5, 6, 7, 0]) rfl (ih _ _ _ h kx)
      clear h
      have h := hh15
      clear hh15
      refine wp_if_eq (tgt := 130) dX1_tryFirst_109 (by decide) (fun hc9 => ?_) (fun hc9 => ?_)
      · have h := ite_t hc9 h
        refine wp_iconst (v := 0) dX1_tryFirst_130 (by decide) ?_
        cases h
        exact wp_pick (ks := [1, 2, 3, 4, 5, 6, 7, 0]) rfl hJ
      · have h := ite_f hc9 h
        refine wp_aload_n dX1_tryFirst_112 rfl rfl ?_
        refine wp_getR dX1_tryFirst_113 flX1_16 rfl hL1.1 hL1.2.1 hL1.2.2.1 ?_
        refine wp_getR dX1_tryFirst_116 flX1_61 rfl (sk2 hS) (sn2 hS) (sr2_3 hS) ?_
        refine wp_iload dX1_tryFirst_119 rfl ?_
        refine wp_iald dX1_tryFirst_121 (sk3 hS) (sn3 hS) hb7 ?_
        refine wp_iload_n dX1_tryFirst_122 rfl rfl ?_
        refine wp_icmp_ne (tgt := 130) dX1_tryFirst_123 (by decide) (fun hc10 => ?_) (fun hc10 => ?_)
        · have h := ite_f hc10 h
          refine wp_iconst (v := 0) dX1_tryFirst_130 (by decide) ?_
          cases h
          exact wp_pick (ks := [1, 2, 3, 4, 5, 6, 7, 0]) rfl hJ
        · have h := ite_t hc10 h
          refine wp_iconst (v := 1) dX1_tryFirst_126 (by decide) ?_
          refine wp_goto (tgt := 131) dX1_tryFirst_127 (by decide) ?_
          cases h
          exact wp_pick (ks := [1, 2, 3, 4, 5, 6, 7, 0]) rfl hJ
set_option maxHeartbeats 4000000 in
set_option maxRecDepth 100000 in
theorem ct_X1_tryFirst (N : Nat) {S : gS} {J : gJ} (hS : Sh S) {t1 : Nat} (hL1 : IsAp S t1) : ∀ (D d : Nat), 2 + D ≤ d → ∀ {a2 : Int32} {a3 : Int32} {a4 : Int32} {a5 : Int32} {a6 : Int32} {I : gI} {r : gI}, mX1_tryFirst N t1 D a2 a3 a4 a5 a6 I = some r → Ct yX1_tryFirst (wsY yX1_tryFirst cX1_tryFirst 9 none) d 0 0 [.ref t1, .int a2, .int a3, .int a4, .int a5, .int a6] S I J (qE (.inl none) S r J) := by
  intro D
  induction D with
  | zero => intro d hd0 a2 a3 a4 a5 a6 I r h; exact nso h
  | succ D ih =>
    intro d hd0 a2 a3 a4 a5 a6 I r h
    have hd : 2 ≤ d := by omega
    have he : (2 + D) + 1 ≤ d := by omega
    have hrc := @ih (2 + D) (Nat.le_refl _)
    refine Ct.of hF (fun _ _ _ _ _ => trivial) (by decide +kernel) (Nat.le_of_ble_eq_true rfl) ⟨Or.inl hL1.2.1, trivial, trivial, trivial, trivial, trivial, trivial⟩ ?_
    show Wp RX1 cX1_tryFirst 9 none [] hF d 0 0 0 [(0, .ref t1), (1, .int a2), (2, .int a3), (3, .int a4), (4, .int a5), (5, .int a6)] [] S I J _
    rw [mX1_tryFirst] at h
    refine wp_iconst (v := 2) dX1_tryFirst_0 (by decide) ?_
    refine wp_iload dX1_tryFirst_1 rfl ?_
    refine wp_imul dX1_tryFirst_3 ?_
    refine wp_aload_n dX1_tryFirst_4 rfl rfl ?_
    refine wp_getI dX1_tryFirst_5 flX1_10 rfl hL1.1 hL1.2.1 ?_
    refine wp_icmp_lt (tgt := 12) dX1_tryFirst_8 (by decide) (fun hc1 => ?_) (fun hc1 => ?_)
    · have h := ite_t hc1 h
      refine wp_iload_n dX1_tryFirst_12 rfl rfl ?_
      refine wp_aload_n dX1_tryFirst_13 rfl rfl ?_
      refine wp_getI dX1_tryFirst_14 flX1_27 rfl hL1.1 hL1.2.1 ?_
      refine wp_icmp_ne (tgt := 60) dX1_tryFirst_17 (by decide) (fun hc2 => ?_) (fun hc2 => ?_)
      · have h := ite_f hc2 h
        refine wp_iload dX1_tryFirst_60 rfl ?_
        obtain ⟨r3, hF4, h⟩ := obi h
        refine wp_callSi (As := [.int a5]) dX1_tryFirst_62 lbJ6_bitCount_0f7a4 mlX1_49 smJ6_bitCount_0f7a4 (ct_J6_bitCount_0f7a4 0 (Nat.le_refl _) hS  hF4) rfl rfl (Nat.le_trans (by decide) hd) (Nat.le_of_ble_eq_true rfl) (fun _ => ?_)
        refine wp_aload_n dX1_tryFirst_65 rfl rfl ?_
        refine wp_getI dX1_tryFirst_66 flX1_30 rfl hL1.1 hL1.2.1 ?_
        refine wp_icmp_lt (tgt := 73) dX1_tryFirst_69 (by decide) (fun hc5 => ?_) (fun hc5 => ?_)
        · have h := ite_t hc5 h
          refine wp_iconst (v := 0) dX1_tryFirst_73 (by decide) ?_
          refine wp_istore (ls' := [(6, .int 0), (0, .ref t1), (1, .int a2), (2, .int a3), (3, .int a4), (4, .int a5), (5, .int a6)]) dX1_tryFirst_74 (Nat.le_of_ble_eq_true rfl) rfl ?_
          obtain ⟨I16, hL917, h⟩ := obi h
          refine wp_pick (ks := [1, 2, 3, 4, 5, 6, 0]) rfl (wX1_tryFirst_76 N d hd hS t1 hL1 _ _ he hrc a2 a3 a4 a5 a6 N 0 I _ hL917 (fun _ e18 => ?_))
          cases e18
          exact wp_vret dX1_tryFirst_186 rfl (by obtain rfl := sji h; exact ⟨rfl, rfl, rfl, rfl⟩)
        · have h := ite_f hc5 h
          exact wp_vret dX1_tryFirst_72 rfl (by obtain rfl := sji h; exact ⟨rfl, rfl, rfl, rfl⟩)
      · have h := ite_t hc2 h
        refine wp_aload_n dX1_tryFirst_20 rfl rfl ?_
        refine wp_aload_n dX1_tryFirst_21 rfl rfl ?_
        refine wp_getI dX1_tryFirst_22 flX1_10 rfl hL1.1 hL1.2.1 ?_
        refine wp_iload dX1_tryFirst_25 rfl ?_
        refine wp_aload_n dX1_tryFirst_27 rfl rfl ?_
        refine wp_getR dX1_tryFirst_28 flX1_20 rfl hL1.1 hL1.2.1 hL1.2.2.2 ?_
        refine wp_aload_n dX1_tryFirst_31 rfl rfl ?_
        refine wp_getI dX1_tryFirst_32 flX1_24 rfl hL1.1 hL1.2.1 ?_
        refine wp_iload dX1_tryFirst_35 rfl ?_
        refine wp_iconst (v := (-1)) dX1_tryFirst_37 (by decide) ?_
        refine wp_ixor dX1_tryFirst_38 ?_
        refine wp_iand dX1_tryFirst_39 ?_
        refine wp_iload_n dX1_tryFirst_40 rfl rfl ?_
        refine wp_aload_n dX1_tryFirst_41 rfl rfl ?_
        refine wp_getI dX1_tryFirst_42 flX1_27 rfl hL1.1 hL1.2.1 ?_
        refine wp_aload_n dX1_tryFirst_45 rfl rfl ?_
        refine wp_getI dX1_tryFirst_46 flX1_30 rfl hL1.1 hL1.2.1 ?_
        obtain ⟨⟨r19, I20⟩, hF21, h⟩ := obi h
        refine wp_callVNi (ci := 6) (As := [.int ((I t1 2) &&& (a5 ^^^ (-1))), .int a2, .int (I t1 3), .int (I t1 4)]) dX1_tryFirst_49 lbX6_leastMetric mnX1_37 imX6_leastMetric seX6_leastMetric vc6 (ct_X6_leastMetric N 1 (Nat.le_refl _) hS  hF21) rfl rfl (Nat.le_trans (by decide) hd) (sk30 hS) (sn30 hS) (Nat.le_of_ble_eq_true rfl) (fun _ => ?_)
        refine wp_iadd dX1_tryFirst_52 ?_
        refine wp_min dX1_tryFirst_53 mlX1_43 ma_min1 ma_2 ma_min3 (Nat.le_trans (by decide) hd) (Nat.le_of_ble_eq_true rfl) ?_
        refine wp_putI dX1_tryFirst_56 (Or.inl fpX1_10) rfl ⟨rfl, rfl⟩ hL1.1 hL1.2.1 ?_
        exact wp_vret dX1_tryFirst_59 rfl (by obtain rfl := sji h; exact ⟨rfl, rfl, rfl, rfl⟩)
    · have h := ite_f hc1 h
      exact wp_vret dX1_tryFirst_11 rfl (by obtain rfl := sji h; exact ⟨rfl, rfl, rfl, rfl⟩)
def mX1_leastSum (N : Nat) (t1 : Nat) (a2 : Int32) (I : gI) : Option (Int32 × gI) := Option.bind (mX1_tryFirst N t1 12 a2 a2 ((1 : Int32) <<< (a2 &&& 31)) 0 0 I) (fun I1 => if 1000000 ≤ (I1 t1 5) then (some ((-1), I1)) else (some (I1 t1 5, I1)))
set_option maxHeartbeats 4000000 in
set_option maxRecDepth 100000 in
theorem ct_X1_leastSum (N : Nat) (d : Nat) (hd : 15 ≤ d) {S : gS} {J : gJ} (hS : Sh S) {t1 : Nat} (hL1 : IsAp S t1) {a2 : Int32} {I : gI} {r : Int32 × gI} (h : mX1_leastSum N t1 a2 I = some r) : Ct yX1_leastSum (wsY yX1_leastSum cX1_leastSum 2 (some .int)) d 0 0 [.ref t1, .int a2] S I J (qE (.inl (some (.int r.1))) S r.2 J) := by
  refine Ct.of hF (fun _ _ _ _ _ => trivial) (by decide +kernel) (Nat.le_of_ble_eq_true rfl) ⟨Or.inl hL1.2.1, trivial, trivial⟩ ?_
  show Wp RX1 cX1_leastSum 2 (some .int) [] hF d 0 0 0 [(0, .ref t1), (1, .int a2)] [] S I J _
  unfold mX1_leastSum at h
  refine wp_aload_n dX1_leastSum_0 rfl rfl ?_
  refine wp_iload_n dX1_leastSum_1 rfl rfl ?_
  refine wp_iload_n dX1_leastSum_2 rfl rfl ?_
  refine wp_iconst (v := 1) dX1_leastSum_3 (by decide) ?_
  refine wp_iload_n dX1_leastSum_4 rfl rfl ?_
  refine wp_ishl dX1_leastSum_5 ?_
  refine wp_iconst (v := 0) dX1_leastSum_6 (by decide) ?_
  refine wp_iconst (v := 0) dX1_leastSum_7 (by decide) ?_
  obtain ⟨I1, hF2, h⟩ := obi h
  refine wp_callVv (ci := 1) (As := [.int a2, .int a2, .int ((1 : Int32) <<< (a2 &&& 31)), .int 0, .int 0]) dX1_leastSum_8 lbX1_tryFirst mlX1_33 imX1_tryFirst seX1_tryFirst vc1 (ct_X1_tryFirst N hS hL1 12 14 (Nat.le_refl _) hF2) rfl rfl (Nat.le_trans (by decide) hd) hL1.1 hL1.2.1 (Nat.le_of_ble_eq_true rfl) (fun _ => ?_)
  refine wp_aload_n dX1_leastSum_11 rfl rfl ?_
  refine wp_getI dX1_leastSum_12 flX1_10 rfl hL1.1 hL1.2.1 ?_
  refine wp_ldc dX1_leastSum_15 koX1_9 ?_
  refine wp_icmp_ge (tgt := 27) dX1_leastSum_17 (by decide) (fun hc3 => ?_) (fun hc3 => ?_)
  · have h := ite_t hc3 h
    refine wp_iconst (v := (-1)) dX1_leastSum_27 (by decide) ?_
    exact wp_iret dX1_leastSum_28 rfl (by obtain rfl := sji h; exact ⟨rfl, rfl, rfl, rfl⟩)
  · have h := ite_f hc3 h
    refine wp_aload_n dX1_leastSum_20 rfl rfl ?_
    refine wp_getI dX1_leastSum_21 flX1_10 rfl hL1.1 hL1.2.1 ?_
    refine wp_goto (tgt := 28) dX1_leastSum_24 (by decide) ?_
    exact wp_iret dX1_leastSum_28 rfl (by obtain rfl := sji h; exact ⟨rfl, rfl, rfl, rfl⟩)
def mX9_draw (t1 : Nat) (a2 : Int32) (I : gI) : Option (Int32 × gI) := if a2 ≤ 0 then (some (0, upd2 I t1 2 (((I t1 2) * 1103515245) + 12345))) else (nm (ushr ((upd2 I t1 2 (((I t1 2) * 1103515245) + 12345)) t1 2) 16) (fun x2 => nz a2 (some ((x2 &&& 32767) - (x2 &&& 32767) / a2 * a2, upd2 I t1 2 (((I t1 2) * 1103515245) + 12345)))))
set_option maxHeartbeats 4000000 in
set_option maxRecDepth 100000 in
theorem ct_X9_draw (d : Nat) (hd : 0 ≤ d) {S : gS} {J : gJ} (hS : Sh S) {t1 : Nat} (hL1 : IsYe S t1) {a2 : Int32} {I : gI} {r : Int32 × gI} (h : mX9_draw t1 a2 I = some r) : Ct yX9_draw (wsY yX9_draw cX9_draw 2 (some .int)) d 0 0 [.ref t1, .int a2] S I J (qE (.inl (some (.int r.1))) S r.2 J) := by
  refine Ct.of hF (fun _ _ _ _ _ => trivial) (by decide +kernel) (Nat.le_of_ble_eq_true rfl) ⟨Or.inl hL1.2.1, trivial, trivial⟩ ?_
  show Wp RX9 cX9_draw 2 (some .int) [] hF d 0 0 0 [(0, .ref t1), (1, .int a2)] [] S I J _
  unfold mX9_draw at h
  refine wp_aload_n dX9_draw_0 rfl rfl ?_
  refine wp_aload_n dX9_draw_1 rfl rfl ?_
  refine wp_getI dX9_draw_2 flX9_17 rfl hL1.1 hL1.2.1 ?_
  refine wp_ldc dX9_draw_5 koX9_21 ?_
  refine wp_imul dX9_draw_7 ?_
  refine wp_sipush (v := 12345) dX9_draw_8 (by decide) ?_
  refine wp_iadd dX9_draw_11 ?_
  refine wp_putI dX9_draw_12 (Or.inl fpX9_17) rfl ⟨rfl, rfl⟩ hL1.1 hL1.2.1 ?_
  refine wp_iload_n dX9_draw_15 rfl rfl ?_
  refine wp_if_le (tgt := 35) dX9_draw_16 (by decide) (fun hc1 => ?_) (fun hc1 => ?_)
  · have h := ite_t hc1 h
    refine wp_iconst (v := 0) dX9_draw_35 (by decide) ?_
    exact wp_iret dX9_draw_36 rfl (by obtain rfl := sji h; exact ⟨rfl, rfl, rfl, rfl⟩)
  · have h := ite_f hc1 h
    refine wp_aload_n dX9_draw_19 rfl rfl ?_
    refine wp_getI dX9_draw_20 flX9_17 rfl hL1.1 hL1.2.1 ?_
    refine wp_bipush (v := 16) dX9_draw_23 (by decide) ?_
    refine wp_iushr dX9_draw_25 ?_
    obtain ⟨x2, hx3, h⟩ := nm_inv h
    refine wp_topi hx3 ?_
    refine wp_sipush (v := 32767) dX9_draw_26 (by decide) ?_
    refine wp_iand dX9_draw_29 ?_
    refine wp_iload_n dX9_draw_30 rfl rfl ?_
    obtain ⟨hz4, h⟩ := nz_inv h
    refine wp_irem dX9_draw_31 hz4 ?_
    refine wp_goto (tgt := 36) dX9_draw_32 (by decide) ?_
    exact wp_iret dX9_draw_36 rfl (by obtain rfl := sji h; exact ⟨rfl, rfl, rfl, rfl⟩)
def mX9_turnLink (N : Nat) (t1 : Nat) (a2 : Int32) (I : gI) : Option (gI) := if ((ushr (I 36 2) a2) &&& 1) = 0 then (some (upd2 I 36 2 ((I 36 2) ||| ((1 : Int32) <<< (a2 &&& 31))))) else (Option.bind (mX2_breakLink N 36 a2 I) (fun (r2, I3) => Option.bind (mX2_settle N 36 r2 I3) (fun (r5, I6) => some (upd2 I6 t1 3 ((I t1 3) + r5)))))
set_option maxHeartbeats 4000000 in
set_option maxRecDepth 100000 in
theorem ct_X9_turnLink (N : Nat) (d : Nat) (hd : 5 ≤ d) {S : gS} {J : gJ} (hS : Sh S) {t1 : Nat} (hL1 : IsYe S t1) {a2 : Int32} {I : gI} {r : gI} (h : mX9_turnLink N t1 a2 I = some r) : Ct yX9_turnLink (wsY yX9_turnLink cX9_turnLink 2 none) d 0 0 [.ref t1, .int a2] S I J (qE (.inl none) S r J) := by
  refine Ct.of hF (fun _ _ _ _ _ => trivial) (by decide +kernel) (Nat.le_of_ble_eq_true rfl) ⟨Or.inl hL1.2.1, trivial, trivial⟩ ?_
  show Wp RX9 cX9_turnLink 2 none [] hF d 0 0 0 [(0, .ref t1), (1, .int a2)] [] S I J _
  unfold mX9_turnLink at h
  refine wp_aload_n dX9_turnLink_0 rfl rfl ?_
  refine wp_getR dX9_turnLink_1 flX9_13 rfl hL1.1 hL1.2.1 hL1.2.2.2 ?_
  refine wp_getR dX9_turnLink_4 flX9_43 rfl (sk42 hS) (sn42 hS) (sr42_2 hS) ?_
  refine wp_getI dX9_turnLink_7 flX9_59 rfl (sk36 hS) (sn36 hS) ?_
  refine wp_iload_n dX9_turnLink_10 rfl rfl ?_
  refine wp_iushr dX9_turnLink_11 ?_
  refine wp_iconst (v := 1) dX9_turnLink_12 (by decide) ?_
  refine wp_iand dX9_turnLink_13 ?_
  refine wp_if_eq (tgt := 44) dX9_turnLink_14 (by decide) (fun hc1 => ?_) (fun hc1 => ?_)
  · have h := ite_t hc1 h
    refine wp_aload_n dX9_turnLink_44 rfl rfl ?_
    refine wp_getR dX9_turnLink_45 flX9_13 rfl hL1.1 hL1.2.1 hL1.2.2.2 ?_
    refine wp_getR dX9_turnLink_48 flX9_43 rfl (sk42 hS) (sn42 hS) (sr42_2 hS) ?_
    refine wp_dup dX9_turnLink_51 rfl ?_
    refine wp_getI dX9_turnLink_52 flX9_59 rfl (sk36 hS) (sn36 hS) ?_
    refine wp_iconst (v := 1) dX9_turnLink_55 (by decide) ?_
    refine wp_iload_n dX9_turnLink_56 rfl rfl ?_
    refine wp_ishl dX9_turnLink_57 ?_
    refine wp_ior dX9_turnLink_58 ?_
    refine wp_putI dX9_turnLink_59 (Or.inl fpX9_59) rfl ⟨rfl, rfl⟩ (sk36 hS) (sn36 hS) ?_
    exact wp_vret dX9_turnLink_62 rfl (by obtain rfl := sji h; exact ⟨rfl, rfl, rfl, rfl⟩)
  · have h := ite_f hc1 h
    refine wp_aload_n dX9_turnLink_17 rfl rfl ?_
    refine wp_dup dX9_turnLink_18 rfl ?_
    refine wp_getI dX9_turnLink_19 flX9_53 rfl hL1.1 hL1.2.1 ?_
    refine wp_aload_n dX9_turnLink_22 rfl rfl ?_
    refine wp_getR dX9_turnLink_23 flX9_13 rfl hL1.1 hL1.2.1 hL1.2.2.2 ?_
    refine wp_aload_n dX9_turnLink_26 rfl rfl ?_
    refine wp_getR dX9_turnLink_27 flX9_13 rfl hL1.1 hL1.2.1 hL1.2.2.2 ?_
    refine wp_iload_n dX9_turnLink_30 rfl rfl ?_
    obtain ⟨⟨r2, I3⟩, hF4, h⟩ := obi h
    refine wp_callVNi (ci := 2) (As := [.int a2]) dX9_turnLink_31 lbX2_breakLink mnX9_62 imX2_breakLink seX2_breakLink vc2 (ct_X2_breakLink N 1 (Nat.le_refl _) hS (le42 hS) hF4) rfl rfl (Nat.le_trans (by decide) hd) (sk42 hS) (sn42 hS) (Nat.le_of_ble_eq_true rfl) (fun _ => ?_)
    obtain ⟨⟨r5, I6⟩, hF7, h⟩ := obi h
    refine wp_callVNi (ci := 2) (As := [.int r2]) dX9_turnLink_34 lbX2_settle mnX9_56 imX2_settle seX2_settle vc2 (ct_X2_settle N 4 (Nat.le_refl _) hS (le42 hS) hF7) rfl rfl (Nat.le_trans (by decide) hd) (sk42 hS) (sn42 hS) (Nat.le_of_ble_eq_true rfl) (fun _ => ?_)
    refine wp_iadd dX9_turnLink_37 ?_
    refine wp_putI dX9_turnLink_38 (Or.inl fpX9_53) rfl ⟨rfl, rfl⟩ hL1.1 hL1.2.1 ?_
    refine wp_goto (tgt := 62) dX9_turnLink_41 (by decide) ?_
    exact wp_vret dX9_turnLink_62 rfl (by obtain rfl := sji h; exact ⟨rfl, rfl, rfl, rfl⟩)
def mX9_pass (N : Nat) (t1 : Nat) (I : gI) : Option (gI) := Option.bind (mX9_draw t1 4 I) (fun (r1, I2) => if r1 = 3 then (if (I2 2 1) ≤ 0 then (some I2) else (Option.bind (mX9_draw t1 (I2 2 1) I2) (fun (r18, I19) => Option.bind (mX9_turnLink N t1 r18 I19) (fun I21 => some I21)))) else (if (I2 2 2) ≤ 0 then (some I2) else (Option.bind (mX9_draw t1 (I2 2 2) I2) (fun (r6, I7) => if r1 = 2 then (Option.bind (mX2_drop N 36 ((1 : Int32) <<< (r6 &&& 31)) I7) (fun I15 => some I15)) else (ck r6 9 (if (I7 37 r6.toNatClampNeg) = 0 then (Option.bind (mX2_settle N 36 ((1 : Int32) <<< (r6 &&& 31)) I7) (fun (r12, I13) => some (upd2 I13 t1 3 ((I7 t1 3) + r12)))) else (some I7)))))))
set_option maxHeartbeats 4000000 in
set_option maxRecDepth 100000 in
theorem ct_X9_pass (N : Nat) (d : Nat) (hd : 6 ≤ d) {S : gS} {J : gJ} (hS : Sh S) {t1 : Nat} (hL1 : IsYe S t1) {I : gI} {r : gI} (h : mX9_pass N t1 I = some r) : Ct yX9_pass (wsY yX9_pass cX9_pass 3 none) d 0 0 [.ref t1] S I J (qE (.inl none) S r J) := by
  refine Ct.of hF (fun _ _ _ _ _ => trivial) (by decide +kernel) (Nat.le_of_ble_eq_true rfl) ⟨Or.inl hL1.2.1, trivial⟩ ?_
  show Wp RX9 cX9_pass 3 none [] hF d 0 0 0 [(0, .ref t1)] [] S I J _
  unfold mX9_pass at h
  refine wp_aload_n dX9_pass_0 rfl rfl ?_
  refine wp_iconst (v := 4) dX9_pass_1 (by decide) ?_
  obtain ⟨⟨r1, I2⟩, hF3, h⟩ := obi h
  refine wp_callVi (ci := 9) (As := [.int 4]) dX9_pass_2 lbX9_draw mlX9_22 imX9_draw seX9_draw vc9 (ct_X9_draw 0 (Nat.le_refl _) hS hL1 hF3) rfl rfl (Nat.le_trans (by decide) hd) hL1.1 hL1.2.1 (Nat.le_of_ble_eq_true rfl) (fun _ => ?_)
  refine wp_istore_n (ls' := [(1, .int r1), (0, .ref t1)]) dX9_pass_5 rfl (Nat.le_of_ble_eq_true rfl) rfl ?_
  refine wp_iload_n dX9_pass_6 rfl rfl ?_
  refine wp_iconst (v := 3) dX9_pass_7 (by decide) ?_
  refine wp_icmp_ne (tgt := 39) dX9_pass_8 (by decide) (fun hc4 => ?_) (fun hc4 => ?_)
  · have h := ite_f hc4 h
    refine wp_aload_n dX9_pass_39 rfl rfl ?_
    refine wp_getR dX9_pass_40 flX9_7 rfl hL1.1 hL1.2.1 hL1.2.2.1 ?_
    refine wp_getI dX9_pass_43 flX9_35 rfl (sk2 hS) (sn2 hS) ?_
    refine wp_if_le (tgt := 113) dX9_pass_46 (by decide) (fun hc5 => ?_) (fun hc5 => ?_)
    · have h := ite_t hc5 h
      exact wp_vret dX9_pass_113 rfl (by obtain rfl := sji h; exact ⟨rfl, rfl, rfl, rfl⟩)
    · have h := ite_f hc5 h
      refine wp_aload_n dX9_pass_49 rfl rfl ?_
      refine wp_aload_n dX9_pass_50 rfl rfl ?_
      refine wp_getR dX9_pass_51 flX9_7 rfl hL1.1 hL1.2.1 hL1.2.2.1 ?_
      refine wp_getI dX9_pass_54 flX9_35 rfl (sk2 hS) (sn2 hS) ?_
      obtain ⟨⟨r6, I7⟩, hF8, h⟩ := obi h
      refine wp_callVi (ci := 9) (As := [.int (I2 2 2)]) dX9_pass_57 lbX9_draw mlX9_22 imX9_draw seX9_draw vc9 (ct_X9_draw 0 (Nat.le_refl _) hS hL1 hF8) rfl rfl (Nat.le_trans (by decide) hd) hL1.1 hL1.2.1 (Nat.le_of_ble_eq_true rfl) (fun _ => ?_)
      refine wp_istore_n (ls' := [(2, .int r6), (1, .int r1), (0, .ref t1)]) dX9_pass_60 rfl (Nat.le_of_ble_eq_true rfl) rfl ?_
      refine wp_iload_n dX9_pass_61 rfl rfl ?_
      refine wp_iconst (v := 2) dX9_pass_62 (by decide) ?_
      refine wp_icmp_ne (tgt := 79) dX9_pass_63 (by decide) (fun hc9 => ?_) (fun hc9 => ?_)
      · have h := ite_f hc9 h
        refine wp_aload_n dX9_pass_79 rfl rfl ?_
        refine wp_getR dX9_pass_80 flX9_13 rfl hL1.1 hL1.2.1 hL1.2.2.2 ?_
        refine wp_getR dX9_pass_83 flX9_43 rfl (sk42 hS) (sn42 hS) (sr42_2 hS) ?_
        refine wp_getR dX9_pass_86 flX9_47 rfl (sk36 hS) (sn36 hS) (sr36_0 hS) ?_
        refine wp_iload_n dX9_pass_89 rfl rfl ?_
        obtain ⟨hb10, h⟩ := ck_inv h
        refine wp_iald dX9_pass_90 (sk37 hS) (sn37 hS) hb10 ?_
        refine wp_if_ne (tgt := 113) dX9_pass_91 (by decide) (fun hc11 => ?_) (fun hc11 => ?_)
        · have h := ite_f hc11 h
          exact wp_vret dX9_pass_113 rfl (by obtain rfl := sji h; exact ⟨rfl, rfl, rfl, rfl⟩)
        · have h := ite_t hc11 h
          refine wp_aload_n dX9_pass_94 rfl rfl ?_
          refine wp_dup dX9_pass_95 rfl ?_
          refine wp_getI dX9_pass_96 flX9_53 rfl hL1.1 hL1.2.1 ?_
          refine wp_aload_n dX9_pass_99 rfl rfl ?_
          refine wp_getR dX9_pass_100 flX9_13 rfl hL1.1 hL1.2.1 hL1.2.2.2 ?_
          refine wp_iconst (v := 1) dX9_pass_103 (by decide) ?_
          refine wp_iload_n dX9_pass_104 rfl rfl ?_
          refine wp_ishl dX9_pass_105 ?_
          obtain ⟨⟨r12, I13⟩, hF14, h⟩ := obi h
          refine wp_callVNi (ci := 2) (As := [.int ((1 : Int32) <<< (r6 &&& 31))]) dX9_pass_106 lbX2_settle mnX9_56 imX2_settle seX2_settle vc2 (ct_X2_settle N 4 (Nat.le_refl _) hS (le42 hS) hF14) rfl rfl (Nat.le_trans (by decide) hd) (sk42 hS) (sn42 hS) (Nat.le_of_ble_eq_true rfl) (fun _ => ?_)
          refine wp_iadd dX9_pass_109 ?_
          refine wp_putI dX9_pass_110 (Or.inl fpX9_53) rfl ⟨rfl, rfl⟩ hL1.1 hL1.2.1 ?_
          exact wp_vret dX9_pass_113 rfl (by obtain rfl := sji h; exact ⟨rfl, rfl, rfl, rfl⟩)
      · have h := ite_t hc9 h
        refine wp_aload_n dX9_pass_66 rfl rfl ?_
        refine wp_getR dX9_pass_67 flX9_13 rfl hL1.1 hL1.2.1 hL1.2.2.2 ?_
        refine wp_iconst (v := 1) dX9_pass_70 (by decide) ?_
        refine wp_iload_n dX9_pass_71 rfl rfl ?_
        refine wp_ishl dX9_pass_72 ?_
        obtain ⟨I15, hF16, h⟩ := obi h
        refine wp_callVNv (ci := 2) (As := [.int ((1 : Int32) <<< (r6 &&& 31))]) dX9_pass_73 lbX2_drop mnX9_38 imX2_drop seX2_drop vc2 (ct_X2_drop N 0 (Nat.le_refl _) hS (le42 hS) hF16) rfl rfl (Nat.le_trans (by decide) hd) (sk42 hS) (sn42 hS) (Nat.le_of_ble_eq_true rfl) (fun _ => ?_)
        refine wp_goto (tgt := 113) dX9_pass_76 (by decide) ?_
        exact wp_vret dX9_pass_113 rfl (by obtain rfl := sji h; exact ⟨rfl, rfl, rfl, rfl⟩)
  · have h := ite_t hc4 h
    refine wp_aload_n dX9_pass_11 rfl rfl ?_
    refine wp_getR dX9_pass_12 flX9_7 rfl hL1.1 hL1.2.1 hL1.2.2.1 ?_
    refine wp_getI dX9_pass_15 flX9_26 rfl (sk2 hS) (sn2 hS) ?_
    refine wp_if_le (tgt := 113) dX9_pass_18 (by decide) (fun hc17 => ?_) (fun hc17 => ?_)
    · have h := ite_t hc17 h
      exact wp_vret dX9_pass_113 rfl (by obtain rfl := sji h; exact ⟨rfl, rfl, rfl, rfl⟩)
    · have h := ite_f hc17 h
      refine wp_aload_n dX9_pass_21 rfl rfl ?_
      refine wp_aload_n dX9_pass_22 rfl rfl ?_
      refine wp_aload_n dX9_pass_23 rfl rfl ?_
      refine wp_getR dX9_pass_24 flX9_7 rfl hL1.1 hL1.2.1 hL1.2.2.1 ?_
      refine wp_getI dX9_pass_27 flX9_26 rfl (sk2 hS) (sn2 hS) ?_
      obtain ⟨⟨r18, I19⟩, hF20, h⟩ := obi h
      refine wp_callVi (ci := 9) (As := [.int (I2 2 1)]) dX9_pass_30 lbX9_draw mlX9_22 imX9_draw seX9_draw vc9 (ct_X9_draw 0 (Nat.le_refl _) hS hL1 hF20) rfl rfl (Nat.le_trans (by decide) hd) hL1.1 hL1.2.1 (Nat.le_of_ble_eq_true rfl) (fun _ => ?_)
      obtain ⟨I21, hF22, h⟩ := obi h
      refine wp_callVv (ci := 9) (As := [.int r18]) dX9_pass_33 lbX9_turnLink mlX9_31 imX9_turnLink seX9_turnLink vc9 (ct_X9_turnLink N 5 (Nat.le_refl _) hS hL1 hF22) rfl rfl (Nat.le_trans (by decide) hd) hL1.1 hL1.2.1 (Nat.le_of_ble_eq_true rfl) (fun _ => ?_)
      refine wp_goto (tgt := 113) dX9_pass_36 (by decide) ?_
      exact wp_vret dX9_pass_113 rfl (by obtain rfl := sji h; exact ⟨rfl, rfl, rfl, rfl⟩)
def mX10_apart (N : Nat) (n9 : Nat) (a2 : Int32) (I : gI) (J : gJ) : Option ((Int32 ⊕ String) × gI × gJ) := lbind (mX10_checkTunnel a2 I) (fun _ => Option.bind (mX2_openTo N 36 a2 (newI I n9)) (fun r3 => ck a2 9 (nm (upd2 (upd2 (upd2 (upd2 (newI I n9) n9 5 1000000) n9 2 r3) n9 3 ((newI I n9) 9 a2.toNatClampNeg)) n9 4 ((newI I n9) 14 a2.toNatClampNeg)) (fun I6 => Option.bind (mX1_leastSum N n9 (I6 8 a2.toNatClampNeg) I6) (fun (r8, I9) => some (.inl r8, I9, newJ J n9)))))) (fun E11 => some (.inr E11, I, J))
set_option maxHeartbeats 4000000 in
set_option maxRecDepth 100000 in
theorem ct_X10_apart (N : Nat) (d : Nat) (hd : 16 ≤ d) {S : gS} {J : gJ} (hS : Sh S) {n9 : Nat} (hn9 : n9 = S.2.2) {a2 : Int32} {I : gI} {r : (Int32 ⊕ String) × gI × gJ} (h : mX10_apart N n9 a2 I J = some r) : Ct yX10_apart (wsY yX10_apart cX10_apart 3 (some .int)) d 2 12 [.ref 0, .int a2] S I J (qE (oI r.1) (oS r.1 (updR (updR (newS S (6, 0)) n9 0 (some 2)) n9 1 (some 30)) S) r.2.1 r.2.2) := by
  refine Ct.of hF (fun _ _ _ _ _ => trivial) (by decide +kernel) (Nat.le_of_ble_eq_true rfl) ⟨Or.inl (sn0 hS), trivial, trivial⟩ ?_
  show Wp RX10 cX10_apart 3 (some .int) [] hF d 2 12 0 [(0, .ref 0), (1, .int a2)] [] S I J _
  unfold mX10_apart at h
  refine wp_aload_n dX10_apart_0 rfl rfl ?_
  refine wp_iload_n dX10_apart_1 rfl rfl ?_
  rcases lbi h with ⟨⟨⟩, hF2, h⟩ | ⟨E11, hF2, h⟩
  · refine wp_callVv (ci := 10) (As := [.int a2]) dX10_apart_2 lbX10_checkTunnel mlX10_246 imX10_checkTunnel seX10_checkTunnel vc10 (ct_X10_checkTunnel 9 (Nat.le_refl _) hS  hF2) rfl rfl (Nat.le_trans (by decide) hd) (sk0 hS) (sn0 hS) (Nat.le_of_ble_eq_true rfl) (fun _ => ?_)
    refine wp_new dX10_apart_5 kc1 clX10_341 it1 ii1 dv1 ?_
    rw [← hn9]
    have h338 : 338 ≤ n9 := by rw [hn9]; exact hS.2.2
    have hk9 : (newS S (6, 0)).1 n9 = (6, 0) := nw_k hn9
    have hn8 : n9 < (newS S (6, 0)).2.2 := nw_n hn9
    replace hS := Sh_nw9 (kd := (6, 0)) hS
    generalize hSe : newS S (6, 0) = S1 at hS hk9 hn8 ⊢
    refine wp_dup dX10_apart_8 rfl ?_
    refine wp_aload_n dX10_apart_9 rfl rfl ?_
    refine wp_getR dX10_apart_10 flX10_20 rfl (sk0 hS) (sn0 hS) (sr0_6 hS) ?_
    refine wp_aload_n dX10_apart_13 rfl rfl ?_
    refine wp_getR dX10_apart_14 flX10_39 rfl (sk0 hS) (sn0 hS) (sr0_9 hS) ?_
    refine wp_aload_n dX10_apart_17 rfl rfl ?_
    refine wp_getR dX10_apart_18 flX10_58 rfl (sk0 hS) (sn0 hS) (sr0_12 hS) ?_
    refine wp_iload_n dX10_apart_21 rfl rfl ?_
    obtain ⟨r3, hF4, h⟩ := obi h
    refine wp_callVNi (ci := 2) (As := [.int a2]) dX10_apart_22 lbX2_openTo mnX10_343 imX2_openTo seX2_openTo vc2 (ct_X2_openTo N 0 (Nat.le_refl _) hS (le42 hS) hF4) rfl rfl (Nat.le_trans (by decide) hd) (sk42 hS) (sn42 hS) (Nat.le_of_ble_eq_true rfl) (fun _ => ?_)
    refine wp_aload_n dX10_apart_25 rfl rfl ?_
    refine wp_getR dX10_apart_26 flX10_20 rfl (sk0 hS) (sn0 hS) (sr0_6 hS) ?_
    refine wp_getR dX10_apart_29 flX10_255 rfl (sk2 hS) (sn2 hS) (sr2_9 hS) ?_
    refine wp_iload_n dX10_apart_32 rfl rfl ?_
    obtain ⟨hb5, h⟩ := ck_inv h
    refine wp_iald dX10_apart_33 (sk9 hS) (sn9 hS) hb5 ?_
    refine wp_aload_n dX10_apart_34 rfl rfl ?_
    refine wp_getR dX10_apart_35 flX10_20 rfl (sk0 hS) (sn0 hS) (sr0_6 hS) ?_
    refine wp_getR dX10_apart_38 flX10_270 rfl (sk2 hS) (sn2 hS) (sr2_14 hS) ?_
    refine wp_iload_n dX10_apart_41 rfl rfl ?_
    refine wp_iald dX10_apart_42 (sk14 hS) (sn14 hS) hb5 ?_
    refine wp_callIv (As := [.ref 2, .ref 30, .int r3, .int ((newI I n9) 9 a2.toNatClampNeg), .int ((newI I n9) 14 a2.toNatClampNeg)]) dX10_apart_43 lbX1_init (Or.inr ⟨_, mnX10_346⟩) imX1_init rfl (ct_X1_init 1 (Nat.le_refl _) hk9 hn8 (sn2 hS) (sn30 hS)) rfl rfl (Nat.le_trans (by decide) hd) (Nat.le_of_ble_eq_true rfl) (fun _ => ?_)
    have hAY : IsAp (updR (updR S1 n9 0 (some 2)) n9 1 (some 30)) n9 := nw_ap hk9 hn8
    replace hS := Sh_put2 h338 hS (x := 2) (y := 30)
    generalize hSf : updR (updR S1 n9 0 (some 2)) n9 1 (some 30) = S2 at hS hAY ⊢
    obtain ⟨I6, hx7, h⟩ := nm_inv h
    refine wp_nmI hx7 ?_
    refine wp_astore_n (ls' := [(2, .ref n9), (0, .ref 0), (1, .int a2)]) dX10_apart_46 rfl (Nat.le_of_ble_eq_true rfl) rfl ?_
    refine wp_aload_n dX10_apart_47 rfl rfl ?_
    refine wp_aload_n dX10_apart_48 rfl rfl ?_
    refine wp_getR dX10_apart_49 flX10_20 rfl (sk0 hS) (sn0 hS) (sr0_6 hS) ?_
    refine wp_getR dX10_apart_52 flX10_252 rfl (sk2 hS) (sn2 hS) (sr2_8 hS) ?_
    refine wp_iload_n dX10_apart_55 rfl rfl ?_
    refine wp_iald dX10_apart_56 (sk8 hS) (sn8 hS) hb5 ?_
    obtain ⟨⟨r8, I9⟩, hF10, h⟩ := obi h
    refine wp_callVNi (ci := 1) (As := [.int (I6 8 a2.toNatClampNeg)]) dX10_apart_57 lbX1_leastSum mnX10_349 imX1_leastSum seX1_leastSum vc1 (ct_X1_leastSum N 15 (Nat.le_refl _) hS hAY hF10) rfl rfl (Nat.le_trans (by decide) hd) hAY.1 hAY.2.1 (Nat.le_of_ble_eq_true rfl) (fun _ => ?_)
    exact wp_iret dX10_apart_60 rfl (by obtain rfl := sji h; exact ⟨rfl, rfl, rfl, rfl⟩)
  · exact wp_callVx (ci := 10) (As := [.int a2]) dX10_apart_2 lbX10_checkTunnel mlX10_246 imX10_checkTunnel seX10_checkTunnel vc10 (ct_X10_checkTunnel 9 (Nat.le_refl _) hS  hF2) rfl rfl (Nat.le_trans (by decide) hd) (sk0 hS) (sn0 hS) (Nat.le_of_ble_eq_true rfl) rfl (by obtain rfl := sji h; exact ⟨rfl, rfl, rfl, rfl⟩)
def mX10_years_73 (N : Nat) (n9 : Nat) (k2 : Int32) (k3 : Int32) (J : gJ) : Nat → Int32 → gI → Option (gI)
  | 0, _, _ => none
  | n + 1, v5, I => if k2 ≤ v5 then (some I) else (Option.bind (mX9_pass N n9 I) (fun I8 => mX10_years_73 N n9 k2 k3 J n (v5 + 1) I8))
def mX10_years (N : Nat) (n9 : Nat) (a2 : Int32) (a3 : Int32) (a4 : Int32) (I : gI) (J : gJ) : Option ((Int32 ⊕ String) × gI × gJ) := if a4 < 0 then (some (.inr "java/util/NoSuchElementException", I, J)) else (if a4 ≤ 2 then (if a3 < 0 then (some (.inr "java/lang/IllegalArgumentException", I, J)) else (if a3 ≤ 60 then (Option.bind (mX8_copyFrom N 39 36 I) (fun I5 => Option.bind (mX10_years_73 N n9 a3 a4 (newJ J n9) N 0 (upd2 (newI I5 n9) n9 2 a2)) (fun I10 => Option.bind (if a4 = 0 then (Option.bind (mX2_standing N 36 I10) (fun r16 => Option.bind (mJ6_bitCount_0f7a4 r16 I10) (fun r18 => some r18))) else (if a4 = 2 then (Option.bind (mX2_takenOfAll N 36 I10) (fun r14 => some r14)) else (some (I10 n9 3))) : Option (Int32)) (fun x11 => Option.bind (mX8_copyFrom N 36 39 I10) (fun I20 => some (.inl x11, I20, newJ J n9)))))) else (some (.inr "java/lang/IllegalArgumentException", I, J)))) else (some (.inr "java/util/NoSuchElementException", I, J)))
set_option maxHeartbeats 4000000 in
set_option maxRecDepth 100000 in
theorem wX10_years_73 (N : Nat) (d : Nat) (hd : 9 ≤ d) {S : gS} {J : gJ} (hS : Sh S) (n9 : Nat) (hAY : IsYe S n9) (k2 : Int32) (k3 : Int32) {Q : gO → gS → gI → gJ → Prop} :
    ∀ (n : Nat) (v5 : Int32) (I : gI) (res : gI), mX10_years_73 N n9 k2 k3 J n v5 I = some res → (∀ (O : gI), res = O → Wp RX10 cX10_years 6 (some .int) [] hF d 1 6 90 [(0, .ref 0), (3, .int k3), (4, .ref n9)] [] S O J Q) → Wp RX10 cX10_years 6 (some .int) [] hF d 1 6 73 [(0, .ref 0), (2, .int k2), (3, .int k3), (4, .ref n9), (5, .int v5)] [] S I J Q := by
  intro n
  induction n with
  | zero => intro v5 I res h; exact nso h
  | succ n ih =>
    intro v5 I res h kx
    rw [mX10_years_73] at h
    refine wp_iload dX10_years_73 rfl ?_
    refine wp_iload_n dX10_years_75 rfl rfl ?_
    refine wp_icmp_ge (tgt := 90) dX10_years_76 (by decide) (fun hc7 => ?_) (fun hc7 => ?_)
    · have h := ite_t hc7 h
      exact wp_pick (ks := [0, 2, 3]) rfl (kx _ (sji h).symm)
    · have h := ite_f hc7 h
      refine wp_aload dX10_years_79 rfl ?_
      obtain ⟨I8, hF9, h⟩ := obi h
      refine wp_callVNv (ci := 9) (As := []) dX10_years_81 lbX9_pass mnX10_413 imX9_pass seX9_pass vc9 (ct_X9_pass N 6 (Nat.le_refl _) hS hAY hF9) rfl rfl (Nat.le_trans (by decide) hd) hAY.1 hAY.2.1 (Nat.le_of_ble_eq_true rfl) (fun _ => ?_)
      refine wp_iinc (v := 1) (ls' := [(5, .int (v5 + 1)), (0, .ref 0), (2, .int k2), (3, .int k3), (4, .ref n9)]) dX10_years_84 rfl (by decide) (Nat.le_of_ble_eq_true rfl) rfl ?_
      refine wp_goto (tgt := 73) dX10_years_87 (by decide) ?_
      exact wp_pick (ks := [1, 2, 3, 4, 0]) rfl (ih _ _ _ h kx)
set_option maxHeartbeats 4000000 in
set_option maxRecDepth 100000 in
theorem ct_X10_years (N : Nat) (d : Nat) (hd : 9 ≤ d) {S : gS} {J : gJ} (hS : Sh S) {n9 : Nat} (hn9 : n9 = S.2.2) {a2 : Int32} {a3 : Int32} {a4 : Int32} {I : gI} {r : (Int32 ⊕ String) × gI × gJ} (h : mX10_years N n9 a2 a3 a4 I J = some r) : Ct yX10_years (wsY yX10_years cX10_years 6 (some .int)) d 2 10 [.ref 0, .int a2, .int a3, .int a4] S I J (qE (oI r.1) (oS r.1 (updR (updR (newS S (14, 0)) n9 0 (some 2)) n9 1 (some 42)) S) r.2.1 r.2.2) := by
  refine Ct.of hF (fun _ _ _ _ _ => trivial) (by decide +kernel) (Nat.le_of_ble_eq_true rfl) ⟨Or.inl (sn0 hS), trivial, trivial, trivial, trivial⟩ ?_
  show Wp RX10 cX10_years 6 (some .int) [] hF d 2 10 0 [(0, .ref 0), (1, .int a2), (2, .int a3), (3, .int a4)] [] S I J _
  unfold mX10_years at h
  refine wp_iload_n dX10_years_0 rfl rfl ?_
  refine wp_if_lt (tgt := 9) dX10_years_1 (by decide) (fun hc1 => ?_) (fun hc1 => ?_)
  · have h := ite_t hc1 h
    exact wp_throwWN (i := 17) dX10_years_9 dX10_years_12 dX10_years_13 dX10_years_16 dX10_years_19 rfl clX10_177 rfl (Nat.le_trans (by decide) hd) (by obtain rfl := sji h; exact ⟨rfl, rfl, rfl, rfl⟩)
  · have h := ite_f hc1 h
    refine wp_iload_n dX10_years_4 rfl rfl ?_
    refine wp_iconst (v := 2) dX10_years_5 (by decide) ?_
    refine wp_icmp_le (tgt := 20) dX10_years_6 (by decide) (fun hc2 => ?_) (fun hc2 => ?_)
    · have h := ite_t hc2 h
      refine wp_iload_n dX10_years_20 rfl rfl ?_
      refine wp_if_lt (tgt := 30) dX10_years_21 (by decide) (fun hc3 => ?_) (fun hc3 => ?_)
      · have h := ite_t hc3 h
        exact wp_throwWA (i := 18) dX10_years_30 dX10_years_33 dX10_years_34 dX10_years_37 dX10_years_40 rfl clX10_101 rfl (Nat.le_trans (by decide) hd) (by obtain rfl := sji h; exact ⟨rfl, rfl, rfl, rfl⟩)
      · have h := ite_f hc3 h
        refine wp_iload_n dX10_years_24 rfl rfl ?_
        refine wp_bipush (v := 60) dX10_years_25 (by decide) ?_
        refine wp_icmp_le (tgt := 41) dX10_years_27 (by decide) (fun hc4 => ?_) (fun hc4 => ?_)
        · have h := ite_t hc4 h
          refine wp_aload_n dX10_years_41 rfl rfl ?_
          refine wp_getR dX10_years_42 flX10_50 rfl (sk0 hS) (sn0 hS) (sr0_11 hS) ?_
          refine wp_aload_n dX10_years_45 rfl rfl ?_
          refine wp_getR dX10_years_46 flX10_46 rfl (sk0 hS) (sn0 hS) (sr0_10 hS) ?_
          obtain ⟨I5, hF6, h⟩ := obi h
          refine wp_callVNv (ci := 8) (As := [.ref 36]) dX10_years_49 lbX8_copyFrom mnX10_185 imX8_copyFrom seX8_copyFrom vc8 (ct_X8_copyFrom N 0 (Nat.le_refl _) hS (st39 hS) (st36 hS) hF6) rfl rfl (Nat.le_trans (by decide) hd) (sk39 hS) (sn39 hS) (Nat.le_of_ble_eq_true rfl) (fun _ => ?_)
          refine wp_new dX10_years_52 kc9 clX10_408 it9 ii9 dv9 ?_
          rw [← hn9]
          have h338 : 338 ≤ n9 := by rw [hn9]; exact hS.2.2
          have hk9 : (newS S (14, 0)).1 n9 = (14, 0) := nw_k hn9
          have hn8 : n9 < (newS S (14, 0)).2.2 := nw_n hn9
          replace hS := Sh_nw9 (kd := (14, 0)) hS
          generalize hSe : newS S (14, 0) = S1 at hS hk9 hn8 ⊢
          refine wp_dup dX10_years_55 rfl ?_
          refine wp_aload_n dX10_years_56 rfl rfl ?_
          refine wp_getR dX10_years_57 flX10_20 rfl (sk0 hS) (sn0 hS) (sr0_6 hS) ?_
          refine wp_aload_n dX10_years_60 rfl rfl ?_
          refine wp_getR dX10_years_61 flX10_58 rfl (sk0 hS) (sn0 hS) (sr0_12 hS) ?_
          refine wp_iload_n dX10_years_64 rfl rfl ?_
          refine wp_callIv (As := [.ref 2, .ref 42, .int a2]) dX10_years_65 lbX9_init (Or.inr ⟨_, mnX10_410⟩) imX9_init rfl (ct_X9_init 1 (Nat.le_refl _) hk9 hn8 (sn2 hS) (sn42 hS)) rfl rfl (Nat.le_trans (by decide) hd) (Nat.le_of_ble_eq_true rfl) (fun _ => ?_)
          have hAY : IsYe (updR (updR S1 n9 0 (some 2)) n9 1 (some 42)) n9 := nw_ye hk9 hn8
          replace hS := Sh_put2 h338 hS (x := 2) (y := 42)
          generalize hSf : updR (updR S1 n9 0 (some 2)) n9 1 (some 42) = S2 at hS hAY ⊢
          refine wp_astore (ls' := [(4, .ref n9), (0, .ref 0), (1, .int a2), (2, .int a3), (3, .int a4)]) dX10_years_68 (Nat.le_of_ble_eq_true rfl) rfl ?_
          refine wp_iconst (v := 0) dX10_years_70 (by decide) ?_
          refine wp_istore (ls' := [(5, .int 0), (4, .ref n9), (0, .ref 0), (1, .int a2), (2, .int a3), (3, .int a4)]) dX10_years_71 (Nat.le_of_ble_eq_true rfl) rfl ?_
          obtain ⟨I10, hL923, h⟩ := obi h
          refine wp_pick (ks := [2, 4, 5, 1, 0]) rfl (wX10_years_73 N d hd hS n9 hAY a3 a4 N 0 (upd2 (newI I5 n9) n9 2 a2) _ hL923 (fun _ e24 => ?_))
          cases e24
          refine wp_aload dX10_years_90 rfl ?_
          refine wp_getI dX10_years_92 flX10_416 rfl hAY.1 hAY.2.1 ?_
          refine wp_istore (ls' := [(5, .int (I10 n9 3)), (0, .ref 0), (3, .int a4), (4, .ref n9)]) dX10_years_95 (Nat.le_of_ble_eq_true rfl) rfl ?_
          refine wp_iload_n dX10_years_97 rfl rfl ?_
          obtain ⟨x11, hh22, h⟩ := obi h
          have hJ : Wp RX10 cX10_years 6 (some .int) [] hF d 1 6 130 [(0, .ref 0), (5, .int x11)] [] S2 I10 (newJ J n9) (qE (oI r.1) (oS r.1 S2 S) r.2.1 r.2.2) := by
            refine wp_aload_n dX10_years_130 rfl rfl ?_
            refine wp_getR dX10_years_131 flX10_46 rfl (sk0 hS) (sn0 hS) (sr0_10 hS) ?_
            refine wp_aload_n dX10_years_134 rfl rfl ?_
            refine wp_getR dX10_years_135 flX10_50 rfl (sk0 hS) (sn0 hS) (sr0_11 hS) ?_
            obtain ⟨I20, hF21, h⟩ := obi h
            refine wp_callVNv (ci := 8) (As := [.ref 39]) dX10_years_138 lbX8_copyFrom mnX10_185 imX8_copyFrom seX8_copyFrom vc8 (ct_X8_copyFrom N 0 (Nat.le_refl _) hS (st36 hS) (st39 hS) hF21) rfl rfl (Nat.le_trans (by decide) hd) (sk36 hS) (sn36 hS) (Nat.le_of_ble_eq_true rfl) (fun _ => ?_)
            refine wp_iload dX10_years_141 rfl ?_
            exact wp_iret dX10_years_143 rfl (by obtain rfl := sji h; exact ⟨rfl, rfl, rfl, rfl⟩)
          clear h
          have h := hh22
          clear hh22
          refine wp_if_ne (tgt := 116) dX10_years_98 (by decide) (fun hc12 => ?_) (fun hc12 => ?_)
          · have h := ite_f hc12 h
            refine wp_iload_n dX10_years_116 rfl rfl ?_
            refine wp_iconst (v := 2) dX10_years_117 (by decide) ?_
            refine wp_icmp_ne (tgt := 130) dX10_years_118 (by decide) (fun hc13 => ?_) (fun hc13 => ?_)
            · have h := ite_f hc13 h
              cases h
              exact wp_pick (ks := [1, 0]) rfl hJ
            · have h := ite_t hc13 h
              refine wp_aload_n dX10_years_121 rfl rfl ?_
              refine wp_getR dX10_years_122 flX10_58 rfl (sk0 hS) (sn0 hS) (sr0_12 hS) ?_
              obtain ⟨r14, hF15, h⟩ := obi h
              refine wp_callVNi (ci := 2) (As := []) dX10_years_125 lbX2_takenOfAll mnX10_148 imX2_takenOfAll seX2_takenOfAll vc2 (ct_X2_takenOfAll N 2 (Nat.le_refl _) hS (le42 hS) hF15) rfl rfl (Nat.le_trans (by decide) hd) (sk42 hS) (sn42 hS) (Nat.le_of_ble_eq_true rfl) (fun _ => ?_)
              refine wp_istore (ls' := [(5, .int r14), (0, .ref 0), (3, .int a4), (4, .ref n9)]) dX10_years_128 (Nat.le_of_ble_eq_true rfl) rfl ?_
              cases h
              exact wp_pick (ks := [1, 0]) rfl hJ
          · have h := ite_t hc12 h
            refine wp_aload_n dX10_years_101 rfl rfl ?_
            refine wp_getR dX10_years_102 flX10_58 rfl (sk0 hS) (sn0 hS) (sr0_12 hS) ?_
            obtain ⟨r16, hF17, h⟩ := obi h
            refine wp_callVNi (ci := 2) (As := []) dX10_years_105 lbX2_standing mnX10_141 imX2_standing seX2_standing vc2 (ct_X2_standing N 0 (Nat.le_refl _) hS (le42 hS) hF17) rfl rfl (Nat.le_trans (by decide) hd) (sk42 hS) (sn42 hS) (Nat.le_of_ble_eq_true rfl) (fun _ => ?_)
            obtain ⟨r18, hF19, h⟩ := obi h
            refine wp_callSi (As := [.int r16]) dX10_years_108 lbJ6_bitCount_0f7a4 mlX10_194 smJ6_bitCount_0f7a4 (ct_J6_bitCount_0f7a4 0 (Nat.le_refl _) hS  hF19) rfl rfl (Nat.le_trans (by decide) hd) (Nat.le_of_ble_eq_true rfl) (fun _ => ?_)
            refine wp_istore (ls' := [(5, .int r18), (0, .ref 0), (3, .int a4), (4, .ref n9)]) dX10_years_111 (Nat.le_of_ble_eq_true rfl) rfl ?_
            refine wp_goto (tgt := 130) dX10_years_113 (by decide) ?_
            cases h
            exact wp_pick (ks := [1, 0]) rfl hJ
        · have h := ite_f hc4 h
          exact wp_throwWA (i := 18) dX10_years_30 dX10_years_33 dX10_years_34 dX10_years_37 dX10_years_40 rfl clX10_101 rfl (Nat.le_trans (by decide) hd) (by obtain rfl := sji h; exact ⟨rfl, rfl, rfl, rfl⟩)
    · have h := ite_f hc2 h
      exact wp_throwWN (i := 17) dX10_years_9 dX10_years_12 dX10_years_13 dX10_years_16 dX10_years_19 rfl clX10_177 rfl (Nat.le_trans (by decide) hd) (by obtain rfl := sji h; exact ⟨rfl, rfl, rfl, rfl⟩)
