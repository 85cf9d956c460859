def mX4_clear_15 (I : gI) : Option (gI) := some (upd2 (upd2 (upd2 I 15 0 2) 15 1 0) 15 2 0)
set_option maxHeartbeats 4000000 in
set_option maxRecDepth 100000 in
theorem ct_X4_clear_15 (d : Nat) (hd : 0 ≤ d) {S : gS} {J : gJ} (hS : Sh S)  {I : gI} {r : gI} (h : mX4_clear_15 I = some r) : Ct yX4_clear (wsY yX4_clear cX4_clear 1 none) d 0 0 [.ref 15] S I J (qE (.inl none) S r J) := by
  refine Ct.of hF (fun _ _ _ _ _ => trivial) (by decide +kernel) (Nat.le_of_ble_eq_true rfl) ⟨Or.inl (sn15 hS), trivial⟩ ?_
  show Wp RX4 cX4_clear 1 none [] hF d 0 0 0 [(0, .ref 15)] [] S I J _
  unfold mX4_clear_15 at h
  refine wp_aload_n dX4_clear_0 rfl rfl ?_
  refine wp_iconst (v := 2) dX4_clear_1 (by decide) ?_
  refine wp_putI dX4_clear_2 (Or.inl fpX4_9) rfl ⟨rfl, rfl⟩ (sk15 hS) (sn15 hS) ?_
  refine wp_aload_n dX4_clear_5 rfl rfl ?_
  refine wp_iconst (v := 0) dX4_clear_6 (by decide) ?_
  refine wp_putI dX4_clear_7 (Or.inl fpX4_52) rfl ⟨rfl, rfl⟩ (sk15 hS) (sn15 hS) ?_
  refine wp_aload_n dX4_clear_10 rfl rfl ?_
  refine wp_iconst (v := 0) dX4_clear_11 (by decide) ?_
  refine wp_putI dX4_clear_12 (Or.inl fpX4_55) rfl ⟨rfl, rfl⟩ (sk15 hS) (sn15 hS) ?_
  exact wp_vret dX4_clear_15 rfl (by obtain rfl := sji h; exact ⟨rfl, rfl, rfl, rfl⟩)
def mX5_isWord_s0_28 (I : gI) : Nat → Int32 → Option ((Unit) ⊕ (Int32))
  | 0, _ => none
  | n + 1, v2 => if (Int32.ofNat (sLen 0)) ≤ v2 then (some (.inl ())) else (ck ((I 28 3) + v2) 700 (ck v2 5 (if (I 1 ((I 28 3) + v2).toNatClampNeg) = (sByt 0 v2.toNatClampNeg &&& 255) then (mX5_isWord_s0_28 I n (v2 + 1)) else (some (.inr 0)))))
def mX5_isWord_s0 (N : Nat) (I : gI) : Option (Int32) := if (I 28 2) = 1 then (if ((I 28 4) - (I 28 3)) = (Int32.ofNat (sLen 0)) then (lbind (mX5_isWord_s0_28 I N 0) (fun _ => some 1) (fun r9 => some r9)) else (some 0)) else (some 0)
set_option maxHeartbeats 4000000 in
set_option maxRecDepth 100000 in
theorem wX5_isWord_s0_28 (d : Nat) (hd : 8 ≤ d) {S : gS} {J : gJ} (hS : Sh S) (hB : S.2.1 28 0 = some 1) (I : gI) {Q : gO → gS → gI → gJ → Prop} :
    ∀ (n : Nat) (v2 : Int32) (res : (Unit) ⊕ (Int32)), mX5_isWord_s0_28 I n v2 = some res → (res = Sum.inl () → Wp RX5 cX5_isWord 3 (some .boolean) [] hF d 0 0 63 [] [] S I J Q) → (∀ (r : Int32), res = Sum.inr r → Q (.inl (some (.int r))) S I J) → Wp RX5 cX5_isWord 3 (some .boolean) [] hF d 0 0 28 [(0, .ref 28), (1, .ref (gSB + 0)), (2, .int v2)] [] S I J Q := by
  intro n
  induction n with
  | zero => intro v2 res h; exact nso h
  | succ n ih =>
    intro v2 res h kx kr
    rw [mX5_isWord_s0_28] at h
    refine wp_iload_n dX5_isWord_28 rfl rfl ?_
    refine wp_aload_n dX5_isWord_29 rfl rfl ?_
    refine wp_callStr (k := 0) (As := []) (by decide) rfl dX5_isWord_30 lbJ0_length_8abf5 mlX5_143 imJ0_length_8abf5 seJ0_length_8abf5 (ct_length 1 (Nat.le_refl _) (by decide)) rfl rfl (Nat.le_trans (by decide) hd) (Nat.le_of_ble_eq_true rfl) ?_
    refine wp_icmp_ge (tgt := 63) dX5_isWord_33 (by decide) (fun hc3 => ?_) (fun hc3 => ?_)
    · have h := ite_t hc3 h
      exact wp_pick (ks := []) rfl (kx (sji h).symm)
    · have h := ite_f hc3 h
      refine wp_aload_n dX5_isWord_36 rfl rfl ?_
      refine wp_getR dX5_isWord_37 flX5_9 rfl (sk28 hS) (sn28 hS) hB ?_
      refine wp_aload_n dX5_isWord_40 rfl rfl ?_
      refine wp_getI dX5_isWord_41 flX5_120 rfl (sk28 hS) (sn28 hS) ?_
      refine wp_iload_n dX5_isWord_44 rfl rfl ?_
      refine wp_iadd dX5_isWord_45 ?_
      obtain ⟨hb4, h⟩ := ck_inv h
      refine wp_bald dX5_isWord_46 (sk1 hS) (sn1 hS) hb4 ?_
      refine wp_aload_n dX5_isWord_47 rfl rfl ?_
      refine wp_iload_n dX5_isWord_48 rfl rfl ?_
      obtain ⟨hb5, h⟩ := ck_inv h
      refine wp_callStr (k := 0) (As := [.int v2]) (by decide) rfl dX5_isWord_49 lbJ0_charAt_5068e mlX5_147 imJ0_charAt_5068e seJ0_charAt_5068e (ct_charAt 3 (Nat.le_refl _) (k := 0) (by decide) (vp_n0 hb5) (vp_ltI (n := 5) hb5 (by decide)) hb5) rfl rfl (Nat.le_trans (by decide) hd) (Nat.le_of_ble_eq_true rfl) ?_
      refine wp_icmp_eq (tgt := 57) dX5_isWord_52 (by decide) (fun hc6 => ?_) (fun hc6 => ?_)
      · have h := ite_t hc6 h
        refine wp_iinc (v := 1) (ls' := [(2, .int (v2 + 1)), (0, .ref 28), (1, .ref (gSB + 0))]) dX5_isWord_57 rfl (by decide) (Nat.le_of_ble_eq_true rfl) rfl ?_
        refine wp_goto (tgt := 28) dX5_isWord_60 (by decide) ?_
        exact wp_pick (ks := [1, 2, 0]) rfl (ih _ _ h kx kr)
      · have h := ite_f hc6 h
        refine wp_iconst (v := 0) dX5_isWord_55 (by decide) ?_
        exact wp_zret dX5_isWord_56 rfl (by decide) (kr _ (sji h).symm)
set_option maxHeartbeats 4000000 in
set_option maxRecDepth 100000 in
theorem ct_X5_isWord_s0 (N : Nat) (d : Nat) (hd : 8 ≤ d) {S : gS} {J : gJ} (hS : Sh S) (hB : S.2.1 28 0 = some 1) {I : gI} {r : Int32} (h : mX5_isWord_s0 N I = some r) : Ct yX5_isWord (wsY yX5_isWord cX5_isWord 3 (some .boolean)) d 0 0 [.ref 28, .ref (gSB + 0)] S I J (qE (.inl (some (.int r))) S I J) := by
  refine Ct.of hF (fun _ _ _ _ _ => trivial) (by decide +kernel) (Nat.le_of_ble_eq_true rfl) ⟨Or.inl (sn28 hS), Or.inr (Nat.le_add_right _ _), trivial⟩ ?_
  show Wp RX5 cX5_isWord 3 (some .boolean) [] hF d 0 0 0 [(0, .ref 28), (1, .ref (gSB + 0))] [] S I J _
  unfold mX5_isWord_s0 at h
  refine wp_aload_n dX5_isWord_0 rfl rfl ?_
  refine wp_getI dX5_isWord_1 flX5_56 rfl (sk28 hS) (sn28 hS) ?_
  refine wp_iconst (v := 1) dX5_isWord_4 (by decide) ?_
  refine wp_icmp_ne (tgt := 24) dX5_isWord_5 (by decide) (fun hc1 => ?_) (fun hc1 => ?_)
  · have h := ite_f hc1 h
    refine wp_iconst (v := 0) dX5_isWord_24 (by decide) ?_
    exact wp_zret dX5_isWord_25 rfl (by decide) (by obtain rfl := sji h; exact ⟨rfl, rfl, rfl, rfl⟩)
  · have h := ite_t hc1 h
    refine wp_aload_n dX5_isWord_8 rfl rfl ?_
    refine wp_getI dX5_isWord_9 flX5_31 rfl (sk28 hS) (sn28 hS) ?_
    refine wp_aload_n dX5_isWord_12 rfl rfl ?_
    refine wp_getI dX5_isWord_13 flX5_120 rfl (sk28 hS) (sn28 hS) ?_
    refine wp_isub dX5_isWord_16 ?_
    refine wp_aload_n dX5_isWord_17 rfl rfl ?_
    refine wp_callStr (k := 0) (As := []) (by decide) rfl dX5_isWord_18 lbJ0_length_8abf5 mlX5_143 imJ0_length_8abf5 seJ0_length_8abf5 (ct_length 1 (Nat.le_refl _) (by decide)) rfl rfl (Nat.le_trans (by decide) hd) (Nat.le_of_ble_eq_true rfl) ?_
    refine wp_icmp_eq (tgt := 26) dX5_isWord_21 (by decide) (fun hc2 => ?_) (fun hc2 => ?_)
    · have h := ite_t hc2 h
      refine wp_iconst (v := 0) dX5_isWord_26 (by decide) ?_
      refine wp_istore_n (ls' := [(2, .int 0), (0, .ref 28), (1, .ref (gSB + 0))]) dX5_isWord_27 rfl (Nat.le_of_ble_eq_true rfl) rfl ?_
      rcases lbi h with ⟨⟨⟩, hL97, h⟩ | ⟨r9, hL97, h⟩
      · refine wp_pick (ks := [1, 2, 0]) rfl (wX5_isWord_s0_28 d hd hS hB I N 0 _ hL97 (fun  e8 => ?_) (fun _ e9 => by cases e9))
        cases e8
        refine wp_iconst (v := 1) dX5_isWord_63 (by decide) ?_
        exact wp_zret dX5_isWord_64 rfl (by decide) (by obtain rfl := sji h; exact ⟨rfl, rfl, rfl, rfl⟩)
      · refine wp_pick (ks := [1, 2, 0]) rfl (wX5_isWord_s0_28 d hd hS hB I N 0 _ hL97 (fun  e9 => by cases e9) (fun _ e8 => ?_))
        cases e8
        exact (by obtain rfl := sji h; exact ⟨rfl, rfl, rfl, rfl⟩)
    · have h := ite_f hc2 h
      refine wp_iconst (v := 0) dX5_isWord_24 (by decide) ?_
      exact wp_zret dX5_isWord_25 rfl (by decide) (by obtain rfl := sji h; exact ⟨rfl, rfl, rfl, rfl⟩)
def mX5_isWord_s1_28 (I : gI) : Nat → Int32 → Option ((Unit) ⊕ (Int32))
  | 0, _ => none
  | n + 1, v2 => if (Int32.ofNat (sLen 1)) ≤ v2 then (some (.inl ())) else (ck ((I 28 3) + v2) 700 (ck v2 4 (if (I 1 ((I 28 3) + v2).toNatClampNeg) = (sByt 1 v2.toNatClampNeg &&& 255) then (mX5_isWord_s1_28 I n (v2 + 1)) else (some (.inr 0)))))
def mX5_isWord_s1 (N : Nat) (I : gI) : Option (Int32) := if (I 28 2) = 1 then (if ((I 28 4) - (I 28 3)) = (Int32.ofNat (sLen 1)) then (lbind (mX5_isWord_s1_28 I N 0) (fun _ => some 1) (fun r9 => some r9)) else (some 0)) else (some 0)
set_option maxHeartbeats 4000000 in
set_option maxRecDepth 100000 in
theorem wX5_isWord_s1_28 (d : Nat) (hd : 8 ≤ d) {S : gS} {J : gJ} (hS : Sh S) (hB : S.2.1 28 0 = some 1) (I : gI) {Q : gO → gS → gI → gJ → Prop} :
    ∀ (n : Nat) (v2 : Int32) (res : (Unit) ⊕ (Int32)), mX5_isWord_s1_28 I n v2 = some res → (res = Sum.inl () → Wp RX5 cX5_isWord 3 (some .boolean) [] hF d 0 0 63 [] [] S I J Q) → (∀ (r : Int32), res = Sum.inr r → Q (.inl (some (.int r))) S I J) → Wp RX5 cX5_isWord 3 (some .boolean) [] hF d 0 0 28 [(0, .ref 28), (1, .ref (gSB + 1)), (2, .int v2)] [] S I J Q := by
  intro n
  induction n with
  | zero => intro v2 res h; exact nso h
  | succ n ih =>
    intro v2 res h kx kr
    rw [mX5_isWord_s1_28] at h
    refine wp_iload_n dX5_isWord_28 rfl rfl ?_
    refine wp_aload_n dX5_isWord_29 rfl rfl ?_
    refine wp_callStr (k := 1) (As := []) (by decide) rfl dX5_isWord_30 lbJ0_length_8abf5 mlX5_143 imJ0_length_8abf5 seJ0_length_8abf5 (ct_length 1 (Nat.le_refl _) (by decide)) rfl rfl (Nat.le_trans (by decide) hd) (Nat.le_of_ble_eq_true rfl) ?_
    refine wp_icmp_ge (tgt := 63) dX5_isWord_33 (by decide) (fun hc3 => ?_) (fun hc3 => ?_)
    · have h := ite_t hc3 h
      exact wp_pick (ks := []) rfl (kx (sji h).symm)
    · have h := ite_f hc3 h
      refine wp_aload_n dX5_isWord_36 rfl rfl ?_
      refine wp_getR dX5_isWord_37 flX5_9 rfl (sk28 hS) (sn28 hS) hB ?_
      refine wp_aload_n dX5_isWord_40 rfl rfl ?_
      refine wp_getI dX5_isWord_41 flX5_120 rfl (sk28 hS) (sn28 hS) ?_
      refine wp_iload_n dX5_isWord_44 rfl rfl ?_
      refine wp_iadd dX5_isWord_45 ?_
      obtain ⟨hb4, h⟩ := ck_inv h
      refine wp_bald dX5_isWord_46 (sk1 hS) (sn1 hS) hb4 ?_
      refine wp_aload_n dX5_isWord_47 rfl rfl ?_
      refine wp_iload_n dX5_isWord_48 rfl rfl ?_
      obtain ⟨hb5, h⟩ := ck_inv h
      refine wp_callStr (k := 1) (As := [.int v2]) (by decide) rfl dX5_isWord_49 lbJ0_charAt_5068e mlX5_147 imJ0_charAt_5068e seJ0_charAt_5068e (ct_charAt 3 (Nat.le_refl _) (k := 1) (by decide) (vp_n0 hb5) (vp_ltI (n := 4) hb5 (by decide)) hb5) rfl rfl (Nat.le_trans (by decide) hd) (Nat.le_of_ble_eq_true rfl) ?_
      refine wp_icmp_eq (tgt := 57) dX5_isWord_52 (by decide) (fun hc6 => ?_) (fun hc6 => ?_)
      · have h := ite_t hc6 h
        refine wp_iinc (v := 1) (ls' := [(2, .int (v2 + 1)), (0, .ref 28), (1, .ref (gSB + 1))]) dX5_isWord_57 rfl (by decide) (Nat.le_of_ble_eq_true rfl) rfl ?_
        refine wp_goto (tgt := 28) dX5_isWord_60 (by decide) ?_
        exact wp_pick (ks := [1, 2, 0]) rfl (ih _ _ h kx kr)
      · have h := ite_f hc6 h
        refine wp_iconst (v := 0) dX5_isWord_55 (by decide) ?_
        exact wp_zret dX5_isWord_56 rfl (by decide) (kr _ (sji h).symm)
set_option maxHeartbeats 4000000 in
set_option maxRecDepth 100000 in
theorem ct_X5_isWord_s1 (N : Nat) (d : Nat) (hd : 8 ≤ d) {S : gS} {J : gJ} (hS : Sh S) (hB : S.2.1 28 0 = some 1) {I : gI} {r : Int32} (h : mX5_isWord_s1 N I = some r) : Ct yX5_isWord (wsY yX5_isWord cX5_isWord 3 (some .boolean)) d 0 0 [.ref 28, .ref (gSB + 1)] S I J (qE (.inl (some (.int r))) S I J) := by
  refine Ct.of hF (fun _ _ _ _ _ => trivial) (by decide +kernel) (Nat.le_of_ble_eq_true rfl) ⟨Or.inl (sn28 hS), Or.inr (Nat.le_add_right _ _), trivial⟩ ?_
  show Wp RX5 cX5_isWord 3 (some .boolean) [] hF d 0 0 0 [(0, .ref 28), (1, .ref (gSB + 1))] [] S I J _
  unfold mX5_isWord_s1 at h
  refine wp_aload_n dX5_isWord_0 rfl rfl ?_
  refine wp_getI dX5_isWord_1 flX5_56 rfl (sk28 hS) (sn28 hS) ?_
  refine wp_iconst (v := 1) dX5_isWord_4 (by decide) ?_
  refine wp_icmp_ne (tgt := 24) dX5_isWord_5 (by decide) (fun hc1 => ?_) (fun hc1 => ?_)
  · have h := ite_f hc1 h
    refine wp_iconst (v := 0) dX5_isWord_24 (by decide) ?_
    exact wp_zret dX5_isWord_25 rfl (by decide) (by obtain rfl := sji h; exact ⟨rfl, rfl, rfl, rfl⟩)
  · have h := ite_t hc1 h
    refine wp_aload_n dX5_isWord_8 rfl rfl ?_
    refine wp_getI dX5_isWord_9 flX5_31 rfl (sk28 hS) (sn28 hS) ?_
    refine wp_aload_n dX5_isWord_12 rfl rfl ?_
    refine wp_getI dX5_isWord_13 flX5_120 rfl (sk28 hS) (sn28 hS) ?_
    refine wp_isub dX5_isWord_16 ?_
    refine wp_aload_n dX5_isWord_17 rfl rfl ?_
    refine wp_callStr (k := 1) (As := []) (by decide) rfl dX5_isWord_18 lbJ0_length_8abf5 mlX5_143 imJ0_length_8abf5 seJ0_length_8abf5 (ct_length 1 (Nat.le_refl _) (by decide)) rfl rfl (Nat.le_trans (by decide) hd) (Nat.le_of_ble_eq_true rfl) ?_
    refine wp_icmp_eq (tgt := 26) dX5_isWord_21 (by decide) (fun hc2 => ?_) (fun hc2 => ?_)
    · have h := ite_t hc2 h
      refine wp_iconst (v := 0) dX5_isWord_26 (by decide) ?_
      refine wp_istore_n (ls' := [(2, .int 0), (0, .ref 28), (1, .ref (gSB + 1))]) dX5_isWord_27 rfl (Nat.le_of_ble_eq_true rfl) rfl ?_
      rcases lbi h with ⟨⟨⟩, hL97, h⟩ | ⟨r9, hL97, h⟩
      · refine wp_pick (ks := [1, 2, 0]) rfl (wX5_isWord_s1_28 d hd hS hB I N 0 _ hL97 (fun  e8 => ?_) (fun _ e9 => by cases e9))
        cases e8
        refine wp_iconst (v := 1) dX5_isWord_63 (by decide) ?_
        exact wp_zret dX5_isWord_64 rfl (by decide) (by obtain rfl := sji h; exact ⟨rfl, rfl, rfl, rfl⟩)
      · refine wp_pick (ks := [1, 2, 0]) rfl (wX5_isWord_s1_28 d hd hS hB I N 0 _ hL97 (fun  e9 => by cases e9) (fun _ e8 => ?_))
        cases e8
        exact (by obtain rfl := sji h; exact ⟨rfl, rfl, rfl, rfl⟩)
    · have h := ite_f hc2 h
      refine wp_iconst (v := 0) dX5_isWord_24 (by decide) ?_
      exact wp_zret dX5_isWord_25 rfl (by decide) (by obtain rfl := sji h; exact ⟨rfl, rfl, rfl, rfl⟩)
def mX5_isWord_s2_28 (I : gI) : Nat → Int32 → Option ((Unit) ⊕ (Int32))
  | 0, _ => none
  | n + 1, v2 => if (Int32.ofNat (sLen 2)) ≤ v2 then (some (.inl ())) else (ck ((I 28 3) + v2) 700 (ck v2 6 (if (I 1 ((I 28 3) + v2).toNatClampNeg) = (sByt 2 v2.toNatClampNeg &&& 255) then (mX5_isWord_s2_28 I n (v2 + 1)) else (some (.inr 0)))))
def mX5_isWord_s2 (N : Nat) (I : gI) : Option (Int32) := if (I 28 2) = 1 then (if ((I 28 4) - (I 28 3)) = (Int32.ofNat (sLen 2)) then (lbind (mX5_isWord_s2_28 I N 0) (fun _ => some 1) (fun r9 => some r9)) else (some 0)) else (some 0)
set_option maxHeartbeats 4000000 in
set_option maxRecDepth 100000 in
theorem wX5_isWord_s2_28 (d : Nat) (hd : 8 ≤ d) {S : gS} {J : gJ} (hS : Sh S) (hB : S.2.1 28 0 = some 1) (I : gI) {Q : gO → gS → gI → gJ → Prop} :
    ∀ (n : Nat) (v2 : Int32) (res : (Unit) ⊕ (Int32)), mX5_isWord_s2_28 I n v2 = some res → (res = Sum.inl () → Wp RX5 cX5_isWord 3 (some .boolean) [] hF d 0 0 63 [] [] S I J Q) → (∀ (r : Int32), res = Sum.inr r → Q (.inl (some (.int r))) S I J) → Wp RX5 cX5_isWord 3 (some .boolean) [] hF d 0 0 28 [(0, .ref 28), (1, .ref (gSB + 2)), (2, .int v2)] [] S I J Q := by
  intro n
  induction n with
  | zero => intro v2 res h; exact nso h
  | succ n ih =>
    intro v2 res h kx kr
    rw [mX5_isWord_s2_28] at h
    refine wp_iload_n dX5_isWord_28 rfl rfl ?_
    refine wp_aload_n dX5_isWord_29 rfl rfl ?_
    refine wp_callStr (k := 2) (As := []) (by decide) rfl dX5_isWord_30 lbJ0_length_8abf5 mlX5_143 imJ0_length_8abf5 seJ0_length_8abf5 (ct_length 1 (Nat.le_refl _) (by decide)) rfl rfl (Nat.le_trans (by decide) hd) (Nat.le_of_ble_eq_true rfl) ?_
    refine wp_icmp_ge (tgt := 63) dX5_isWord_33 (by decide) (fun hc3 => ?_) (fun hc3 => ?_)
    · have h := ite_t hc3 h
      exact wp_pick (ks := []) rfl (kx (sji h).symm)
    · have h := ite_f hc3 h
      refine wp_aload_n dX5_isWord_36 rfl rfl ?_
      refine wp_getR dX5_isWord_37 flX5_9 rfl (sk28 hS) (sn28 hS) hB ?_
      refine wp_aload_n dX5_isWord_40 rfl rfl ?_
      refine wp_getI dX5_isWord_41 flX5_120 rfl (sk28 hS) (sn28 hS) ?_
      refine wp_iload_n dX5_isWord_44 rfl rfl ?_
      refine wp_iadd dX5_isWord_45 ?_
      obtain ⟨hb4, h⟩ := ck_inv h
      refine wp_bald dX5_isWord_46 (sk1 hS) (sn1 hS) hb4 ?_
      refine wp_aload_n dX5_isWord_47 rfl rfl ?_
      refine wp_iload_n dX5_isWord_48 rfl rfl ?_
      obtain ⟨hb5, h⟩ := ck_inv h
      refine wp_callStr (k := 2) (As := [.int v2]) (by decide) rfl dX5_isWord_49 lbJ0_charAt_5068e mlX5_147 imJ0_charAt_5068e seJ0_charAt_5068e (ct_charAt 3 (Nat.le_refl _) (k := 2) (by decide) (vp_n0 hb5) (vp_ltI (n := 6) hb5 (by decide)) hb5) rfl rfl (Nat.le_trans (by decide) hd) (Nat.le_of_ble_eq_true rfl) ?_
      refine wp_icmp_eq (tgt := 57) dX5_isWord_52 (by decide) (fun hc6 => ?_) (fun hc6 => ?_)
      · have h := ite_t hc6 h
        refine wp_iinc (v := 1) (ls' := [(2, .int (v2 + 1)), (0, .ref 28), (1, .ref (gSB + 2))]) dX5_isWord_57 rfl (by decide) (Nat.le_of_ble_eq_true rfl) rfl ?_
        refine wp_goto (tgt := 28) dX5_isWord_60 (by decide) ?_
        exact wp_pick (ks := [1, 2, 0]) rfl (ih _ _ h kx kr)
      · have h := ite_f hc6 h
        refine wp_iconst (v := 0) dX5_isWord_55 (by decide) ?_
        exact wp_zret dX5_isWord_56 rfl (by decide) (kr _ (sji h).symm)
set_option maxHeartbeats 4000000 in
set_option maxRecDepth 100000 in
theorem ct_X5_isWord_s2 (N : Nat) (d : Nat) (hd : 8 ≤ d) {S : gS} {J : gJ} (hS : Sh S) (hB : S.2.1 28 0 = some 1) {I : gI} {r : Int32} (h : mX5_isWord_s2 N I = some r) : Ct yX5_isWord (wsY yX5_isWord cX5_isWord 3 (some .boolean)) d 0 0 [.ref 28, .ref (gSB + 2)] S I J (qE (.inl (some (.int r))) S I J) := by
  refine Ct.of hF (fun _ _ _ _ _ => trivial) (by decide +kernel) (Nat.le_of_ble_eq_true rfl) ⟨Or.inl (sn28 hS), Or.inr (Nat.le_add_right _ _), trivial⟩ ?_
  show Wp RX5 cX5_isWord 3 (some .boolean) [] hF d 0 0 0 [(0, .ref 28), (1, .ref (gSB + 2))] [] S I J _
  unfold mX5_isWord_s2 at h
  refine wp_aload_n dX5_isWord_0 rfl rfl ?_
  refine wp_getI dX5_isWord_1 flX5_56 rfl (sk28 hS) (sn28 hS) ?_
  refine wp_iconst (v := 1) dX5_isWord_4 (by decide) ?_
  refine wp_icmp_ne (tgt := 24) dX5_isWord_5 (by decide) (fun hc1 => ?_) (fun hc1 => ?_)
  · have h := ite_f hc1 h
    refine wp_iconst (v := 0) dX5_isWord_24 (by decide) ?_
    exact wp_zret dX5_isWord_25 rfl (by decide) (by obtain rfl := sji h; exact ⟨rfl, rfl, rfl, rfl⟩)
  · have h := ite_t hc1 h
    refine wp_aload_n dX5_isWord_8 rfl rfl ?_
    refine wp_getI dX5_isWord_9 flX5_31 rfl (sk28 hS) (sn28 hS) ?_
    refine wp_aload_n dX5_isWord_12 rfl rfl ?_
    refine wp_getI dX5_isWord_13 flX5_120 rfl (sk28 hS) (sn28 hS) ?_
    refine wp_isub dX5_isWord_16 ?_
    refine wp_aload_n dX5_isWord_17 rfl rfl ?_
    refine wp_callStr (k := 2) (As := []) (by decide) rfl dX5_isWord_18 lbJ0_length_8abf5 mlX5_143 imJ0_length_8abf5 seJ0_length_8abf5 (ct_length 1 (Nat.le_refl _) (by decide)) rfl rfl (Nat.le_trans (by decide) hd) (Nat.le_of_ble_eq_true rfl) ?_
    refine wp_icmp_eq (tgt := 26) dX5_isWord_21 (by decide) (fun hc2 => ?_) (fun hc2 => ?_)
    · have h := ite_t hc2 h
      refine wp_iconst (v := 0) dX5_isWord_26 (by decide) ?_
      refine wp_istore_n (ls' := [(2, .int 0), (0, .ref 28), (1, .ref (gSB + 2))]) dX5_isWord_27 rfl (Nat.le_of_ble_eq_true rfl) rfl ?_
      rcases lbi h with ⟨⟨⟩, hL97, h⟩ | ⟨r9, hL97, h⟩
      · refine wp_pick (ks := [1, 2, 0]) rfl (wX5_isWord_s2_28 d hd hS hB I N 0 _ hL97 (fun  e8 => ?_) (fun _ e9 => by cases e9))
        cases e8
        refine wp_iconst (v := 1) dX5_isWord_63 (by decide) ?_
        exact wp_zret dX5_isWord_64 rfl (by decide) (by obtain rfl := sji h; exact ⟨rfl, rfl, rfl, rfl⟩)
      · refine wp_pick (ks := [1, 2, 0]) rfl (wX5_isWord_s2_28 d hd hS hB I N 0 _ hL97 (fun  e9 => by cases e9) (fun _ e8 => ?_))
        cases e8
        exact (by obtain rfl := sji h; exact ⟨rfl, rfl, rfl, rfl⟩)
    · have h := ite_f hc2 h
      refine wp_iconst (v := 0) dX5_isWord_24 (by decide) ?_
      exact wp_zret dX5_isWord_25 rfl (by decide) (by obtain rfl := sji h; exact ⟨rfl, rfl, rfl, rfl⟩)
def mX5_read_69 (N : Nat) : Nat → Int32 → gI → Option (gI)
  | 0, _, _ => none
  | n + 1, v4, I => if 700 ≤ v4 then (some I) else (if (I 28 6) = 0 then (if (I 28 2) = 0 then (some I) else (Option.bind (mX5_isWord_s1 N I) (fun r21 => if r21 = 0 then (Option.bind (mX5_isWord_s2 N I) (fun r24 => if r24 = 0 then (Option.bind (mX5_flag 1 I) (fun I27 => mX5_read_69 N n (v4 + 1) I27)) else (Option.bind (mX5_readTunnel N (I 15 2) I) (fun I29 => mX5_read_69 N n (v4 + 1) I29)))) else (Option.bind (mX5_readLink N (I 15 1) I) (fun I31 => mX5_read_69 N n (v4 + 1) I31))))) else (some I))
def mX5_read (N : Nat) (a3 : Int32) (I : gI) : Option (Int32 × gI) := nm (upd2 (upd2 (upd2 I 28 1 (if 700 < a3 then 700 else a3)) 28 6 0) 28 7 (-1)) (fun I1 => Option.bind (mX4_clear_15 (upd2 I1 28 4 0)) (fun I3 => Option.bind (mX5_next N I3) (fun I5 => Option.bind (mX5_isWord_s0 N I5) (fun r7 => Option.bind (if r7 = 0 then (some I5) else (Option.bind (mX5_next N I5) (fun I11 => Option.bind (mX5_number N 2 8 I11) (fun (r13, I14) => Option.bind (mX5_semicolon N (upd2 I14 15 0 r13)) (fun I16 => some I16)))) : Option (gI)) (fun I9 => Option.bind (mX5_read_69 N N 0 I9) (fun I33 => some (I33 28 6, I33)))))))
set_option maxHeartbeats 4000000 in
set_option maxRecDepth 100000 in
theorem wX5_read_69 (N : Nat) (d : Nat) (hd : 9 ≤ d) {S : gS} {J : gJ} (hS : Sh S) (hB : S.2.1 28 0 = some 1) {Q : gO → gS → gI → gJ → Prop} :
    ∀ (n : Nat) (v4 : Int32) (I : gI) (res : gI), mX5_read_69 N n v4 I = some res → (∀ (O : gI), res = O → Wp RX5 cX5_read 5 (some .int) [] hF d 0 0 144 [(0, .ref 28)] [] S O J Q) → Wp RX5 cX5_read 5 (some .int) [] hF d 0 0 69 [(0, .ref 28), (3, .ref 15), (4, .int v4)] [] S I J Q := by
  intro n
  induction n with
  | zero => intro v4 I res h; exact nso h
  | succ n ih =>
    intro v4 I res h kx
    rw [mX5_read_69] at h
    refine wp_iload dX5_read_69 rfl ?_
    refine wp_sipush (v := 700) dX5_read_71 (by decide) ?_
    refine wp_icmp_ge (tgt := 144) dX5_read_74 (by decide) (fun hc18 => ?_) (fun hc18 => ?_)
    · have h := ite_t hc18 h
      exact wp_pick (ks := [0]) rfl (kx _ (sji h).symm)
    · have h := ite_f hc18 h
      refine wp_aload_n dX5_read_77 rfl rfl ?_
      refine wp_getI dX5_read_78 flX5_28 rfl (sk28 hS) (sn28 hS) ?_
      refine wp_if_ne (tgt := 144) dX5_read_81 (by decide) (fun hc19 => ?_) (fun hc19 => ?_)
      · have h := ite_f hc19 h
        exact wp_pick (ks := [0]) rfl (kx _ (sji h).symm)
      · have h := ite_t hc19 h
        refine wp_aload_n dX5_read_84 rfl rfl ?_
        refine wp_getI dX5_read_85 flX5_56 rfl (sk28 hS) (sn28 hS) ?_
        refine wp_if_eq (tgt := 144) dX5_read_88 (by decide) (fun hc20 => ?_) (fun hc20 => ?_)
        · have h := ite_t hc20 h
          exact wp_pick (ks := [0]) rfl (kx _ (sji h).symm)
        · have h := ite_f hc20 h
          refine wp_aload_n dX5_read_91 rfl rfl ?_
          refine wp_ldcS (i := 1) dX5_read_92 rfl ?_
          obtain ⟨r21, hF22, h⟩ := obi h
          refine wp_callVi (ci := 5) (As := [.ref (gSB + 1)]) dX5_read_94 lbX5_isWord mlX5_44 imX5_isWord seX5_isWord vc5 (ct_X5_isWord_s1 N 8 (Nat.le_refl _) hS hB hF22) rfl rfl (Nat.le_trans (by decide) hd) (sk28 hS) (sn28 hS) (Nat.le_of_ble_eq_true rfl) (fun _ => ?_)
          refine wp_if_eq (tgt := 112) dX5_read_97 (by decide) (fun hc23 => ?_) (fun hc23 => ?_)
          · have h := ite_t hc23 h
            refine wp_aload_n dX5_read_112 rfl rfl ?_
            refine wp_ldcS (i := 2) dX5_read_113 rfl ?_
            obtain ⟨r24, hF25, h⟩ := obi h
            refine wp_callVi (ci := 5) (As := [.ref (gSB + 2)]) dX5_read_115 lbX5_isWord mlX5_44 imX5_isWord seX5_isWord vc5 (ct_X5_isWord_s2 N 8 (Nat.le_refl _) hS hB hF25) rfl rfl (Nat.le_trans (by decide) hd) (sk28 hS) (sn28 hS) (Nat.le_of_ble_eq_true rfl) (fun _ => ?_)
            refine wp_if_eq (tgt := 133) dX5_read_118 (by decide) (fun hc26 => ?_) (fun hc26 => ?_)
            · have h := ite_t hc26 h
              refine wp_aload_n dX5_read_133 rfl rfl ?_
              refine wp_iconst (v := 1) dX5_read_134 (by decide) ?_
              obtain ⟨I27, hF28, h⟩ := obi h
              refine wp_callVv (ci := 5) (As := [.int 1]) dX5_read_135 lbX5_flag mlX5_76 imX5_flag seX5_flag vc5 (ct_X5_flag 0 (Nat.le_refl _) hS hB hF28) rfl rfl (Nat.le_trans (by decide) hd) (sk28 hS) (sn28 hS) (Nat.le_of_ble_eq_true rfl) (fun _ => ?_)
              refine wp_iinc (v := 1) (ls' := [(4, .int (v4 + 1)), (0, .ref 28), (3, .ref 15)]) dX5_read_138 rfl (by decide) (Nat.le_of_ble_eq_true rfl) rfl ?_
              refine wp_goto (tgt := 69) dX5_read_141 (by decide) ?_
              exact wp_pick (ks := [1, 2, 0]) rfl (ih _ _ _ h kx)
            · have h := ite_f hc26 h
              refine wp_aload_n dX5_read_121 rfl rfl ?_
              refine wp_aload_n dX5_read_122 rfl rfl ?_
              refine wp_aload_n dX5_read_123 rfl rfl ?_
              refine wp_getI dX5_read_124 flX5_70 rfl (sk15 hS) (sn15 hS) ?_
              obtain ⟨I29, hF30, h⟩ := obi h
              refine wp_callVv (ci := 5) (As := [.ref 15, .int (I 15 2)]) dX5_read_127 lbX5_readTunnel mlX5_73 imX5_readTunnel seX5_readTunnel vc5 (ct_X5_readTunnel N 5 (Nat.le_refl _) hS hB hF30) rfl rfl (Nat.le_trans (by decide) hd) (sk28 hS) (sn28 hS) (Nat.le_of_ble_eq_true rfl) (fun _ => ?_)
              refine wp_goto (tgt := 138) dX5_read_130 (by decide) ?_
              refine wp_iinc (v := 1) (ls' := [(4, .int (v4 + 1)), (0, .ref 28), (3, .ref 15)]) dX5_read_138 rfl (by decide) (Nat.le_of_ble_eq_true rfl) rfl ?_
              refine wp_goto (tgt := 69) dX5_read_141 (by decide) ?_
              exact wp_pick (ks := [1, 2, 0]) rfl (ih _ _ _ h kx)
          · have h := ite_f hc23 h
            refine wp_aload_n dX5_read_100 rfl rfl ?_
            refine wp_aload_n dX5_read_101 rfl rfl ?_
            refine wp_aload_n dX5_read_102 rfl rfl ?_
            refine wp_getI dX5_read_103 flX5_61 rfl (sk15 hS) (sn15 hS) ?_
            obtain ⟨I31, hF32, h⟩ := obi h
            refine wp_callVv (ci := 5) (As := [.ref 15, .int (I 15 1)]) dX5_read_106 lbX5_readLink mlX5_64 imX5_readLink seX5_readLink vc5 (ct_X5_readLink N 5 (Nat.le_refl _) hS hB hF32) rfl rfl (Nat.le_trans (by decide) hd) (sk28 hS) (sn28 hS) (Nat.le_of_ble_eq_true rfl) (fun _ => ?_)
            refine wp_goto (tgt := 138) dX5_read_109 (by decide) ?_
            refine wp_iinc (v := 1) (ls' := [(4, .int (v4 + 1)), (0, .ref 28), (3, .ref 15)]) dX5_read_138 rfl (by decide) (Nat.le_of_ble_eq_true rfl) rfl ?_
            refine wp_goto (tgt := 69) dX5_read_141 (by decide) ?_
            exact wp_pick (ks := [1, 2, 0]) rfl (ih _ _ _ h kx)
set_option maxHeartbeats 4000000 in
set_option maxRecDepth 100000 in
theorem ct_X5_read (N : Nat) (d : Nat) (hd : 9 ≤ d) {S : gS} {J : gJ} (hS : Sh S)  {a3 : Int32} {I : gI} {r : Int32 × gI} (h : mX5_read N a3 I = some r) : Ct yX5_read (wsY yX5_read cX5_read 5 (some .int)) d 0 0 [.ref 28, .ref 1, .int a3, .ref 15] S I J (qE (.inl (some (.int r.1))) (updR S 28 0 (some 1)) r.2 J) := by
  refine Ct.of hF (fun _ _ _ _ _ => trivial) (by decide +kernel) (Nat.le_of_ble_eq_true rfl) ⟨Or.inl (sn28 hS), Or.inl (sn1 hS), trivial, Or.inl (sn15 hS), trivial⟩ ?_
  show Wp RX5 cX5_read 5 (some .int) [] hF d 0 0 0 [(0, .ref 28), (1, .ref 1), (2, .int a3), (3, .ref 15)] [] S I J _
  unfold mX5_read at h
  refine wp_aload_n dX5_read_0 rfl rfl ?_
  refine wp_aload_n dX5_read_1 rfl rfl ?_
  refine wp_putR dX5_read_2 (Or.inl fpX5_9) rfl (fun _ => ⟨rfl, rfl⟩) (sk28 hS) (sn28 hS) (sn1 hS) ?_
  have hB : (updR S 28 0 (some 1)).2.1 28 0 = some 1 := rfl
  replace hS := Sh_bytes hS
  generalize hSe : updR S 28 0 (some 1) = S1 at hS hB ⊢
  refine wp_aload_n dX5_read_5 rfl rfl ?_
  refine wp_iload_n dX5_read_6 rfl rfl ?_
  refine wp_aload_n dX5_read_7 rfl rfl ?_
  refine wp_alen (v := 700) dX5_read_8 (sk1 hS) (by decide) (sn1 hS) (by decide) ?_
  refine wp_min dX5_read_9 mlX5_19 ma_min1 ma_2 ma_min3 (Nat.le_trans (by decide) hd) (Nat.le_of_ble_eq_true rfl) ?_
  refine wp_putI dX5_read_12 (Or.inl fpX5_25) rfl ⟨rfl, rfl⟩ (sk28 hS) (sn28 hS) ?_
  refine wp_aload_n dX5_read_15 rfl rfl ?_
  refine wp_iconst (v := 0) dX5_read_16 (by decide) ?_
  refine wp_putI dX5_read_17 (Or.inl fpX5_28) rfl ⟨rfl, rfl⟩ (sk28 hS) (sn28 hS) ?_
  refine wp_aload_n dX5_read_20 rfl rfl ?_
  refine wp_iconst (v := (-1)) dX5_read_21 (by decide) ?_
  refine wp_putI dX5_read_22 (Or.inl fpX5_15) rfl ⟨rfl, rfl⟩ (sk28 hS) (sn28 hS) ?_
  obtain ⟨I1, hx2, h⟩ := nm_inv h
  refine wp_nmI hx2 ?_
  refine wp_aload_n dX5_read_25 rfl rfl ?_
  refine wp_iconst (v := 0) dX5_read_26 (by decide) ?_
  refine wp_putI dX5_read_27 (Or.inl fpX5_31) rfl ⟨rfl, rfl⟩ (sk28 hS) (sn28 hS) ?_
  refine wp_aload_n dX5_read_30 rfl rfl ?_
  obtain ⟨I3, hF4, h⟩ := obi h
  refine wp_callVNv (ci := 4) (As := []) dX5_read_31 lbX4_clear mnX5_34 imX4_clear seX4_clear vc4 (ct_X4_clear_15 0 (Nat.le_refl _) hS  hF4) rfl rfl (Nat.le_trans (by decide) hd) (sk15 hS) (sn15 hS) (Nat.le_of_ble_eq_true rfl) (fun _ => ?_)
  refine wp_aload_n dX5_read_34 rfl rfl ?_
  obtain ⟨I5, hF6, h⟩ := obi h
  refine wp_callVv (ci := 5) (As := []) dX5_read_35 lbX5_next mlX5_39 imX5_next seX5_next vc5 (ct_X5_next N 2 (Nat.le_refl _) hS hB hF6) rfl rfl (Nat.le_trans (by decide) hd) (sk28 hS) (sn28 hS) (Nat.le_of_ble_eq_true rfl) (fun _ => ?_)
  refine wp_aload_n dX5_read_38 rfl rfl ?_
  refine wp_ldcS (i := 0) dX5_read_39 rfl ?_
  obtain ⟨r7, hF8, h⟩ := obi h
  refine wp_callVi (ci := 5) (As := [.ref (gSB + 0)]) dX5_read_41 lbX5_isWord mlX5_44 imX5_isWord seX5_isWord vc5 (ct_X5_isWord_s0 N 8 (Nat.le_refl _) hS hB hF8) rfl rfl (Nat.le_trans (by decide) hd) (sk28 hS) (sn28 hS) (Nat.le_of_ble_eq_true rfl) (fun _ => ?_)
  obtain ⟨I9, hh36, h⟩ := obi h
  have hJ : Wp RX5 cX5_read 5 (some .int) [] hF d 0 0 66 [(0, .ref 28), (3, .ref 15)] [] S1 I9 J (qE (.inl (some (.int r.1))) S1 r.2 J) := by
    refine wp_iconst (v := 0) dX5_read_66 (by decide) ?_
    refine wp_istore (ls' := [(4, .int 0), (0, .ref 28), (3, .ref 15)]) dX5_read_67 (Nat.le_of_ble_eq_true rfl) rfl ?_
    obtain ⟨I33, hL934, h⟩ := obi h
    refine wp_pick (ks := [1, 2, 0]) rfl (wX5_read_69 N d hd hS hB  N 0 I9 _ hL934 (fun _ e35 => ?_))
    cases e35
    refine wp_aload_n dX5_read_144 rfl rfl ?_
    refine wp_getI dX5_read_145 flX5_28 rfl (sk28 hS) (sn28 hS) ?_
    exact wp_iret dX5_read_148 rfl (by obtain rfl := sji h; exact ⟨rfl, rfl, rfl, rfl⟩)
  clear h
  have h := hh36
  clear hh36
  refine wp_if_eq (tgt := 66) dX5_read_44 (by decide) (fun hc10 => ?_) (fun hc10 => ?_)
  · have h := ite_t hc10 h
    cases h
    exact wp_pick (ks := [0, 3]) rfl hJ
  · have h := ite_f hc10 h
    refine wp_aload_n dX5_read_47 rfl rfl ?_
    obtain ⟨I11, hF12, h⟩ := obi h
    refine wp_callVv (ci := 5) (As := []) dX5_read_48 lbX5_next mlX5_39 imX5_next seX5_next vc5 (ct_X5_next N 2 (Nat.le_refl _) hS hB hF12) rfl rfl (Nat.le_trans (by decide) hd) (sk28 hS) (sn28 hS) (Nat.le_of_ble_eq_true rfl) (fun _ => ?_)
    refine wp_aload_n dX5_read_51 rfl rfl ?_
    refine wp_aload_n dX5_read_52 rfl rfl ?_
    refine wp_iconst (v := 2) dX5_read_53 (by decide) ?_
    refine wp_bipush (v := 8) dX5_read_54 (by decide) ?_
    obtain ⟨⟨r13, I14⟩, hF15, h⟩ := obi h
    refine wp_callVi (ci := 5) (As := [.int 2, .int 8]) dX5_read_56 lbX5_number mlX5_48 imX5_number seX5_number vc5 (ct_X5_number N 4 (Nat.le_refl _) hS hB hF15) rfl rfl (Nat.le_trans (by decide) hd) (sk28 hS) (sn28 hS) (Nat.le_of_ble_eq_true rfl) (fun _ => ?_)
    refine wp_putI dX5_read_59 (Or.inl fpX5_51) rfl ⟨rfl, rfl⟩ (sk15 hS) (sn15 hS) ?_
    refine wp_aload_n dX5_read_62 rfl rfl ?_
    obtain ⟨I16, hF17, h⟩ := obi h
    refine wp_callVv (ci := 5) (As := []) dX5_read_63 lbX5_semicolon mlX5_53 imX5_semicolon seX5_semicolon vc5 (ct_X5_semicolon N 3 (Nat.le_refl _) hS hB hF17) rfl rfl (Nat.le_trans (by decide) hd) (sk28 hS) (sn28 hS) (Nat.le_of_ble_eq_true rfl) (fun _ => ?_)
    cases h
    exact wp_pick (ks := [0, 3]) rfl hJ
def mX10_network (N : Nat) (a2 : Int32) (I : gI) : Option ((Int32 ⊕ String) × gI) := if a2 < 0 then (some (.inr "java/lang/IllegalArgumentException", I)) else (if a2 ≤ (I 0 1) then (Option.bind (mX5_read N a2 I) (fun (r3, I4) => if r3 = 0 then (Option.bind (mX4_copyFrom (upd2 (upd2 I4 0 2 (I4 28 7)) 0 1 0)) (fun I7 => Option.bind (mX8_begin N 36 I7) (fun I9 => Option.bind (mX0_clear I9) (fun I11 => Option.bind (mX7_clear I11) (fun I13 => some (.inl 0, upd2 I13 0 16 0)))))) else (nm (upd2 (upd2 (upd2 I4 0 2 (I4 28 7)) 0 1 0) 0 3 (((upd2 (upd2 I4 0 2 (I4 28 7)) 0 1 0) 0 3) + 1)) (fun I15 => some (.inl r3, I15))))) else (some (.inr "java/lang/IllegalArgumentException", I)))
set_option maxHeartbeats 4000000 in
set_option maxRecDepth 100000 in
theorem ct_X10_network (N : Nat) (d : Nat) (hd : 10 ≤ d) {S : gS} {J : gJ} (hS : Sh S)  {a2 : Int32} {I : gI} {r : (Int32 ⊕ String) × gI} (h : mX10_network N a2 I = some r) : Ct yX10_network (wsY yX10_network cX10_network 3 (some .int)) d 1 6 [.ref 0, .int a2] S I J (qE (oI r.1) (oS r.1 (updR S 28 0 (some 1)) S) r.2 J) := by
  refine Ct.of hF (fun _ _ _ _ _ => trivial) (by decide +kernel) (Nat.le_of_ble_eq_true rfl) ⟨Or.inl (sn0 hS), trivial, trivial⟩ ?_
  show Wp RX10 cX10_network 3 (some .int) [] hF d 1 6 0 [(0, .ref 0), (1, .int a2)] [] S I J _
  unfold mX10_network at h
  refine wp_iload_n dX10_network_0 rfl rfl ?_
  refine wp_if_lt (tgt := 12) dX10_network_1 (by decide) (fun hc1 => ?_) (fun hc1 => ?_)
  · have h := ite_t hc1 h
    exact wp_throwSA (i := 3) dX10_network_12 dX10_network_15 dX10_network_16 dX10_network_18 dX10_network_21 rfl clX10_101 rfl (Nat.le_trans (by decide) hd) (by obtain rfl := sji h; exact ⟨rfl, rfl, rfl, rfl⟩)
  · have h := ite_f hc1 h
    refine wp_iload_n dX10_network_4 rfl rfl ?_
    refine wp_aload_n dX10_network_5 rfl rfl ?_
    refine wp_getI dX10_network_6 flX10_94 rfl (sk0 hS) (sn0 hS) ?_
    refine wp_icmp_le (tgt := 22) dX10_network_9 (by decide) (fun hc2 => ?_) (fun hc2 => ?_)
    · have h := ite_t hc2 h
      refine wp_aload_n dX10_network_22 rfl rfl ?_
      refine wp_getR dX10_network_23 flX10_30 rfl (sk0 hS) (sn0 hS) (sr0_8 hS) ?_
      refine wp_aload_n dX10_network_26 rfl rfl ?_
      refine wp_getR dX10_network_27 flX10_9 rfl (sk0 hS) (sn0 hS) (sr0_0 hS) ?_
      refine wp_iload_n dX10_network_30 rfl rfl ?_
      refine wp_aload_n dX10_network_31 rfl rfl ?_
      refine wp_getR dX10_network_32 flX10_24 rfl (sk0 hS) (sn0 hS) (sr0_7 hS) ?_
      obtain ⟨⟨r3, I4⟩, hF5, h⟩ := obi h
      refine wp_callVNi (ci := 5) (As := [.ref 1, .int a2, .ref 15]) dX10_network_35 lbX5_read mnX10_108 imX5_read seX5_read vc5 (ct_X5_read N 9 (Nat.le_refl _) hS  hF5) rfl rfl (Nat.le_trans (by decide) hd) (sk28 hS) (sn28 hS) (Nat.le_of_ble_eq_true rfl) (fun _ => ?_)
      have hB : (updR S 28 0 (some 1)).2.1 28 0 = some 1 := rfl
      replace hS := Sh_bytes hS
      generalize hSe : updR S 28 0 (some 1) = S1 at hS hB ⊢
      refine wp_istore_n (ls' := [(2, .int r3), (0, .ref 0), (1, .int a2)]) dX10_network_38 rfl (Nat.le_of_ble_eq_true rfl) rfl ?_
      refine wp_aload_n dX10_network_39 rfl rfl ?_
      refine wp_aload_n dX10_network_40 rfl rfl ?_
      refine wp_getR dX10_network_41 flX10_30 rfl (sk0 hS) (sn0 hS) (sr0_8 hS) ?_
      refine wp_getI dX10_network_44 flX10_112 rfl (sk28 hS) (sn28 hS) ?_
      refine wp_putI dX10_network_47 (Or.inl fpX10_13) rfl ⟨rfl, rfl⟩ (sk0 hS) (sn0 hS) ?_
      refine wp_aload_n dX10_network_50 rfl rfl ?_
      refine wp_iconst (v := 0) dX10_network_51 (by decide) ?_
      refine wp_putI dX10_network_52 (Or.inl fpX10_94) rfl ⟨rfl, rfl⟩ (sk0 hS) (sn0 hS) ?_
      refine wp_iload_n dX10_network_55 rfl rfl ?_
      refine wp_if_eq (tgt := 71) dX10_network_56 (by decide) (fun hc6 => ?_) (fun hc6 => ?_)
      · have h := ite_t hc6 h
        refine wp_aload_n dX10_network_71 rfl rfl ?_
        refine wp_getR dX10_network_72 flX10_20 rfl (sk0 hS) (sn0 hS) (sr0_6 hS) ?_
        refine wp_aload_n dX10_network_75 rfl rfl ?_
        refine wp_getR dX10_network_76 flX10_24 rfl (sk0 hS) (sn0 hS) (sr0_7 hS) ?_
        obtain ⟨I7, hF8, h⟩ := obi h
        refine wp_callVNv (ci := 4) (As := [.ref 15]) dX10_network_79 lbX4_copyFrom mnX10_118 imX4_copyFrom seX4_copyFrom vc4 (ct_X4_copyFrom 1 (Nat.le_refl _) hS  hF8) rfl rfl (Nat.le_trans (by decide) hd) (sk2 hS) (sn2 hS) (Nat.le_of_ble_eq_true rfl) (fun _ => ?_)
        refine wp_aload_n dX10_network_82 rfl rfl ?_
        refine wp_getR dX10_network_83 flX10_46 rfl (sk0 hS) (sn0 hS) (sr0_10 hS) ?_
        refine wp_aload_n dX10_network_86 rfl rfl ?_
        refine wp_getR dX10_network_87 flX10_20 rfl (sk0 hS) (sn0 hS) (sr0_6 hS) ?_
        obtain ⟨I9, hF10, h⟩ := obi h
        refine wp_callVNv (ci := 8) (As := [.ref 2]) dX10_network_90 lbX8_begin mnX10_121 imX8_begin seX8_begin vc8 (ct_X8_begin N 0 (Nat.le_refl _) hS (st36 hS) hF10) rfl rfl (Nat.le_trans (by decide) hd) (sk36 hS) (sn36 hS) (Nat.le_of_ble_eq_true rfl) (fun _ => ?_)
        refine wp_aload_n dX10_network_93 rfl rfl ?_
        refine wp_getR dX10_network_94 flX10_74 rfl (sk0 hS) (sn0 hS) (sr0_14 hS) ?_
        obtain ⟨I11, hF12, h⟩ := obi h
        refine wp_callVNv (ci := 0) (As := []) dX10_network_97 lbX0_clear mnX10_124 imX0_clear seX0_clear vc0 (ct_X0_clear 0 (Nat.le_refl _) hS  hF12) rfl rfl (Nat.le_trans (by decide) hd) (sk51 hS) (sn51 hS) (Nat.le_of_ble_eq_true rfl) (fun _ => ?_)
        refine wp_aload_n dX10_network_100 rfl rfl ?_
        refine wp_getR dX10_network_101 flX10_81 rfl (sk0 hS) (sn0 hS) (sr0_15 hS) ?_
        obtain ⟨I13, hF14, h⟩ := obi h
        refine wp_callVNv (ci := 7) (As := []) dX10_network_104 lbX7_clear mnX10_127 imX7_clear seX7_clear vc7 (ct_X7_clear 0 (Nat.le_refl _) hS  hF14) rfl rfl (Nat.le_trans (by decide) hd) (sk173 hS) (sn173 hS) (Nat.le_of_ble_eq_true rfl) (fun _ => ?_)
        refine wp_aload_n dX10_network_107 rfl rfl ?_
        refine wp_iconst (v := 0) dX10_network_108 (by decide) ?_
        refine wp_putI dX10_network_109 (Or.inl fpX10_128) rfl ⟨rfl, rfl⟩ (sk0 hS) (sn0 hS) ?_
        refine wp_iconst (v := 0) dX10_network_112 (by decide) ?_
        exact wp_iret dX10_network_113 rfl (by obtain rfl := sji h; exact ⟨rfl, rfl, rfl, rfl⟩)
      · have h := ite_f hc6 h
        refine wp_aload_n dX10_network_59 rfl rfl ?_
        refine wp_dup dX10_network_60 rfl ?_
        refine wp_getI dX10_network_61 flX10_115 rfl (sk0 hS) (sn0 hS) ?_
        refine wp_iconst (v := 1) dX10_network_64 (by decide) ?_
        refine wp_iadd dX10_network_65 ?_
        refine wp_putI dX10_network_66 (Or.inl fpX10_115) rfl ⟨rfl, rfl⟩ (sk0 hS) (sn0 hS) ?_
        obtain ⟨I15, hx16, h⟩ := nm_inv h
        refine wp_nmI hx16 ?_
        refine wp_iload_n dX10_network_69 rfl rfl ?_
        exact wp_iret dX10_network_70 rfl (by obtain rfl := sji h; exact ⟨rfl, rfl, rfl, rfl⟩)
    · have h := ite_f hc2 h
      exact wp_throwSA (i := 3) dX10_network_12 dX10_network_15 dX10_network_16 dX10_network_18 dX10_network_21 rfl clX10_101 rfl (Nat.le_trans (by decide) hd) (by obtain rfl := sji h; exact ⟨rfl, rfl, rfl, rfl⟩)
