def mX8_begin_2 (s1 : Nat) : Nat → Int32 → gI → Option (gI)
  | 0, _, _ => none
  | n + 1, v2, I => if 9 ≤ v2 then (some I) else (ck v2 9 (nm (upd2 (upd2 I (s1 + 1) v2.toNatClampNeg 0) (s1 + 2) v2.toNatClampNeg ((upd2 I (s1 + 1) v2.toNatClampNeg 0) 10 v2.toNatClampNeg)) (fun I3 => mX8_begin_2 s1 n (v2 + 1) I3)))
def mX8_begin (N : Nat) (s1 : Nat) (I : gI) : Option (gI) := Option.bind (mX8_begin_2 s1 N 0 I) (fun I5 => some (upd2 I5 s1 2 (((1 : Int32) <<< ((I5 2 1) &&& 31)) - 1)))
set_option maxHeartbeats 4000000 in
set_option maxRecDepth 100000 in
theorem wX8_begin_2 (d : Nat) (hd : 0 ≤ d) {S : gS} {J : gJ} (hS : Sh S) (s1 : Nat) (hT1 : IsSt S s1) {Q : gO → gS → gI → gJ → Prop} :
    ∀ (n : Nat) (v2 : Int32) (I : gI) (res : gI), mX8_begin_2 s1 n v2 I = some res → (∀ (O : gI), res = O → Wp RX8 cX8_begin 3 none [] hF d 0 0 33 [(0, .ref s1), (1, .ref 2)] [] S O J Q) → Wp RX8 cX8_begin 3 none [] hF d 0 0 2 [(0, .ref s1), (1, .ref 2), (2, .int v2)] [] S I J Q := by
  intro n
  induction n with
  | zero => intro v2 I res h; exact nso h
  | succ n ih =>
    intro v2 I res h kx
    rw [mX8_begin_2] at h
    refine wp_iload_n dX8_begin_2 rfl rfl ?_
    refine wp_bipush (v := 9) dX8_begin_3 (by decide) ?_
    refine wp_icmp_ge (tgt := 33) dX8_begin_5 (by decide) (fun hc1 => ?_) (fun hc1 => ?_)
    · have h := ite_t hc1 h
      exact wp_pick (ks := [0, 1]) rfl (kx _ (sji h).symm)
    · have h := ite_f hc1 h
      refine wp_aload_n dX8_begin_8 rfl rfl ?_
      refine wp_getR dX8_begin_9 flX8_9 rfl hT1.1 hT1.n0 hT1.2.2.2.2.1 ?_
      refine wp_iload_n dX8_begin_12 rfl rfl ?_
      refine wp_iconst (v := 0) dX8_begin_13 (by decide) ?_
      obtain ⟨hb2, h⟩ := ck_inv h
      refine wp_iast dX8_begin_14 hT1.2.2.1 hT1.n1 hb2 ?_
      refine wp_aload_n dX8_begin_15 rfl rfl ?_
      refine wp_getR dX8_begin_16 flX8_15 rfl hT1.1 hT1.n0 hT1.2.2.2.2.2 ?_
      refine wp_iload_n dX8_begin_19 rfl rfl ?_
      refine wp_aload_n dX8_begin_20 rfl rfl ?_
      refine wp_getR dX8_begin_21 flX8_18 rfl (sk2 hS) (sn2 hS) (sr2_10 hS) ?_
      refine wp_iload_n dX8_begin_24 rfl rfl ?_
      refine wp_iald dX8_begin_25 (sk10 hS) (sn10 hS) hb2 ?_
      refine wp_iast dX8_begin_26 hT1.2.2.2.1 hT1.n2 hb2 ?_
      obtain ⟨I3, hx4, h⟩ := nm_inv h
      refine wp_nmI hx4 ?_
      refine wp_iinc (v := 1) (ls' := [(2, .int (v2 + 1)), (0, .ref s1), (1, .ref 2)]) dX8_begin_27 rfl (by decide) (Nat.le_of_ble_eq_true rfl) rfl ?_
      refine wp_goto (tgt := 2) dX8_begin_30 (by decide) ?_
      exact wp_pick (ks := [1, 2, 0]) rfl (ih _ _ _ h kx)
set_option maxHeartbeats 4000000 in
set_option maxRecDepth 100000 in
theorem ct_X8_begin (N : Nat) (d : Nat) (hd : 0 ≤ d) {S : gS} {J : gJ} (hS : Sh S) {s1 : Nat} (hT1 : IsSt S s1) {I : gI} {r : gI} (h : mX8_begin N s1 I = some r) : Ct yX8_begin (wsY yX8_begin cX8_begin 3 none) d 0 0 [.ref s1, .ref 2] S I J (qE (.inl none) S r J) := by
  refine Ct.of hF (fun _ _ _ _ _ => trivial) (by decide +kernel) (Nat.le_of_ble_eq_true rfl) ⟨Or.inl hT1.n0, Or.inl (sn2 hS), trivial⟩ ?_
  show Wp RX8 cX8_begin 3 none [] hF d 0 0 0 [(0, .ref s1), (1, .ref 2)] [] S I J _
  unfold mX8_begin at h
  refine wp_iconst (v := 0) dX8_begin_0 (by decide) ?_
  refine wp_istore_n (ls' := [(2, .int 0), (0, .ref s1), (1, .ref 2)]) dX8_begin_1 rfl (Nat.le_of_ble_eq_true rfl) rfl ?_
  obtain ⟨I5, hL96, h⟩ := obi h
  refine wp_pick (ks := [1, 2, 0]) rfl (wX8_begin_2 d hd hS s1 hT1  N 0 I _ hL96 (fun _ e7 => ?_))
  cases e7
  refine wp_aload_n dX8_begin_33 rfl rfl ?_
  refine wp_iconst (v := 1) dX8_begin_34 (by decide) ?_
  refine wp_aload_n dX8_begin_35 rfl rfl ?_
  refine wp_getI dX8_begin_36 flX8_23 rfl (sk2 hS) (sn2 hS) ?_
  refine wp_ishl dX8_begin_39 ?_
  refine wp_iconst (v := 1) dX8_begin_40 (by decide) ?_
  refine wp_isub dX8_begin_41 ?_
  refine wp_putI dX8_begin_42 (Or.inl fpX8_27) rfl ⟨rfl, rfl⟩ hT1.1 hT1.n0 ?_
  exact wp_vret dX8_begin_45 rfl (by obtain rfl := sji h; exact ⟨rfl, rfl, rfl, rfl⟩)
def mX8_copyFrom_2 (s1 : Nat) (s2 : Nat) : Nat → Int32 → gI → Option (gI)
  | 0, _, _ => none
  | n + 1, v2, I => if 9 ≤ v2 then (some I) else (ck v2 9 (nm ((upd2 I (s1 + 1) v2.toNatClampNeg (I (s2 + 1) v2.toNatClampNeg)) (s2 + 2) v2.toNatClampNeg) (fun x3 => nm (upd2 (upd2 I (s1 + 1) v2.toNatClampNeg (I (s2 + 1) v2.toNatClampNeg)) (s1 + 2) v2.toNatClampNeg x3) (fun I5 => mX8_copyFrom_2 s1 s2 n (v2 + 1) I5))))
def mX8_copyFrom (N : Nat) (s1 : Nat) (s2 : Nat) (I : gI) : Option (gI) := Option.bind (mX8_copyFrom_2 s1 s2 N 0 I) (fun I7 => some (upd2 I7 s1 2 (I7 s2 2)))
set_option maxHeartbeats 4000000 in
set_option maxRecDepth 100000 in
theorem wX8_copyFrom_2 (d : Nat) (hd : 0 ≤ d) {S : gS} {J : gJ} (hS : Sh S) (s1 : Nat) (s2 : Nat) (hT1 : IsSt S s1) (hT2 : IsSt S s2) {Q : gO → gS → gI → gJ → Prop} :
    ∀ (n : Nat) (v2 : Int32) (I : gI) (res : gI), mX8_copyFrom_2 s1 s2 n v2 I = some res → (∀ (O : gI), res = O → Wp RX8 cX8_copyFrom 3 none [] hF d 0 0 38 [(0, .ref s1), (1, .ref s2)] [] S O J Q) → Wp RX8 cX8_copyFrom 3 none [] hF d 0 0 2 [(0, .ref s1), (1, .ref s2), (2, .int v2)] [] S I J Q := by
  intro n
  induction n with
  | zero => intro v2 I res h; exact nso h
  | succ n ih =>
    intro v2 I res h kx
    rw [mX8_copyFrom_2] at h
    refine wp_iload_n dX8_copyFrom_2 rfl rfl ?_
    refine wp_bipush (v := 9) dX8_copyFrom_3 (by decide) ?_
    refine wp_icmp_ge (tgt := 38) dX8_copyFrom_5 (by decide) (fun hc1 => ?_) (fun hc1 => ?_)
    · have h := ite_t hc1 h
      exact wp_pick (ks := [0, 1]) rfl (kx _ (sji h).symm)
    · have h := ite_f hc1 h
      refine wp_aload_n dX8_copyFrom_8 rfl rfl ?_
      refine wp_getR dX8_copyFrom_9 flX8_9 rfl hT1.1 hT1.n0 hT1.2.2.2.2.1 ?_
      refine wp_iload_n dX8_copyFrom_12 rfl rfl ?_
      refine wp_aload_n dX8_copyFrom_13 rfl rfl ?_
      refine wp_getR dX8_copyFrom_14 flX8_9 rfl hT2.1 hT2.n0 hT2.2.2.2.2.1 ?_
      refine wp_iload_n dX8_copyFrom_17 rfl rfl ?_
      obtain ⟨hb2, h⟩ := ck_inv h
      refine wp_iald dX8_copyFrom_18 hT2.2.2.1 hT2.n1 hb2 ?_
      refine wp_iast dX8_copyFrom_19 hT1.2.2.1 hT1.n1 hb2 ?_
      refine wp_aload_n dX8_copyFrom_20 rfl rfl ?_
      refine wp_getR dX8_copyFrom_21 flX8_15 rfl hT1.1 hT1.n0 hT1.2.2.2.2.2 ?_
      refine wp_iload_n dX8_copyFrom_24 rfl rfl ?_
      refine wp_aload_n dX8_copyFrom_25 rfl rfl ?_
      refine wp_getR dX8_copyFrom_26 flX8_15 rfl hT2.1 hT2.n0 hT2.2.2.2.2.2 ?_
      refine wp_iload_n dX8_copyFrom_29 rfl rfl ?_
      refine wp_iald dX8_copyFrom_30 hT2.2.2.2.1 hT2.n2 hb2 ?_
      obtain ⟨x3, hx4, h⟩ := nm_inv h
      refine wp_topi hx4 ?_
      refine wp_iast dX8_copyFrom_31 hT1.2.2.2.1 hT1.n2 hb2 ?_
      obtain ⟨I5, hx6, h⟩ := nm_inv h
      refine wp_nmI hx6 ?_
      refine wp_iinc (v := 1) (ls' := [(2, .int (v2 + 1)), (0, .ref s1), (1, .ref s2)]) dX8_copyFrom_32 rfl (by decide) (Nat.le_of_ble_eq_true rfl) rfl ?_
      refine wp_goto (tgt := 2) dX8_copyFrom_35 (by decide) ?_
      exact wp_pick (ks := [1, 2, 0]) rfl (ih _ _ _ h kx)
set_option maxHeartbeats 4000000 in
set_option maxRecDepth 100000 in
theorem ct_X8_copyFrom (N : Nat) (d : Nat) (hd : 0 ≤ d) {S : gS} {J : gJ} (hS : Sh S) {s1 : Nat} {s2 : Nat} (hT1 : IsSt S s1) (hT2 : IsSt S s2) {I : gI} {r : gI} (h : mX8_copyFrom N s1 s2 I = some r) : Ct yX8_copyFrom (wsY yX8_copyFrom cX8_copyFrom 3 none) d 0 0 [.ref s1, .ref s2] S I J (qE (.inl none) S r J) := by
  refine Ct.of hF (fun _ _ _ _ _ => trivial) (by decide +kernel) (Nat.le_of_ble_eq_true rfl) ⟨Or.inl hT1.n0, Or.inl hT2.n0, trivial⟩ ?_
  show Wp RX8 cX8_copyFrom 3 none [] hF d 0 0 0 [(0, .ref s1), (1, .ref s2)] [] S I J _
  unfold mX8_copyFrom at h
  refine wp_iconst (v := 0) dX8_copyFrom_0 (by decide) ?_
  refine wp_istore_n (ls' := [(2, .int 0), (0, .ref s1), (1, .ref s2)]) dX8_copyFrom_1 rfl (Nat.le_of_ble_eq_true rfl) rfl ?_
  obtain ⟨I7, hL98, h⟩ := obi h
  refine wp_pick (ks := [1, 2, 0]) rfl (wX8_copyFrom_2 d hd hS s1 s2 hT1 hT2  N 0 I _ hL98 (fun _ e9 => ?_))
  cases e9
  refine wp_aload_n dX8_copyFrom_38 rfl rfl ?_
  refine wp_aload_n dX8_copyFrom_39 rfl rfl ?_
  refine wp_getI dX8_copyFrom_40 flX8_27 rfl hT2.1 hT2.n0 ?_
  refine wp_putI dX8_copyFrom_43 (Or.inl fpX8_27) rfl ⟨rfl, rfl⟩ hT1.1 hT1.n0 ?_
  exact wp_vret dX8_copyFrom_46 rfl (by obtain rfl := sji h; exact ⟨rfl, rfl, rfl, rfl⟩)
def mX0_clear (I : gI) : Option (gI) := some (upd2 I 51 2 0)
set_option maxHeartbeats 4000000 in
set_option maxRecDepth 100000 in
theorem ct_X0_clear (d : Nat) (hd : 0 ≤ d) {S : gS} {J : gJ} (hS : Sh S)  {I : gI} {r : gI} (h : mX0_clear I = some r) : Ct yX0_clear (wsY yX0_clear cX0_clear 1 none) d 0 0 [.ref 51] S I J (qE (.inl none) S r J) := by
  refine Ct.of hF (fun _ _ _ _ _ => trivial) (by decide +kernel) (Nat.le_of_ble_eq_true rfl) ⟨Or.inl (sn51 hS), trivial⟩ ?_
  show Wp RX0 cX0_clear 1 none [] hF d 0 0 0 [(0, .ref 51)] [] S I J _
  unfold mX0_clear at h
  refine wp_aload_n dX0_clear_0 rfl rfl ?_
  refine wp_iconst (v := 0) dX0_clear_1 (by decide) ?_
  refine wp_putI dX0_clear_2 (Or.inl fpX0_18) rfl ⟨rfl, rfl⟩ (sk51 hS) (sn51 hS) ?_
  exact wp_vret dX0_clear_5 rfl (by obtain rfl := sji h; exact ⟨rfl, rfl, rfl, rfl⟩)
def mX0_keep (N : Nat) (s2 : Nat) (I : gI) : Option (gI) := Option.bind (if (I 51 2) = 40 then (nm ((upd2 I 51 1 (((I 51 1) + 1) - ((I 51 1) + 1) / 40 * 40)) 51 2) (fun x3 => nm (upd2 (upd2 I 51 1 (((I 51 1) + 1) - ((I 51 1) + 1) / 40 * 40)) 51 2 (x3 - 1)) (fun I5 => some I5))) else (some I) : Option (gI)) (fun I1 => nm (((I1 51 1) + (I1 51 2)) - ((I1 51 1) + (I1 51 2)) / 40 * 40) (fun x7 => ck x7 40 (Option.bind (mX8_copyFrom N (53 + 3 * x7.toNatClampNeg) s2 I1) (fun I10 => some (upd2 I10 51 2 ((I10 51 2) + 1))))))
set_option maxHeartbeats 4000000 in
set_option maxRecDepth 100000 in
theorem ct_X0_keep (N : Nat) (d : Nat) (hd : 1 ≤ d) {S : gS} {J : gJ} (hS : Sh S) {s2 : Nat} (hT2 : IsSt S s2) {I : gI} {r : gI} (h : mX0_keep N s2 I = some r) : Ct yX0_keep (wsY yX0_keep cX0_keep 2 none) d 0 0 [.ref 51, .ref s2] S I J (qE (.inl none) S r J) := by
  refine Ct.of hF (fun _ _ _ _ _ => trivial) (by decide +kernel) (Nat.le_of_ble_eq_true rfl) ⟨Or.inl (sn51 hS), Or.inl hT2.n0, trivial⟩ ?_
  show Wp RX0 cX0_keep 2 none [] hF d 0 0 0 [(0, .ref 51), (1, .ref s2)] [] S I J _
  unfold mX0_keep at h
  refine wp_aload_n dX0_keep_0 rfl rfl ?_
  refine wp_getI dX0_keep_1 flX0_18 rfl (sk51 hS) (sn51 hS) ?_
  refine wp_bipush (v := 40) dX0_keep_4 (by decide) ?_
  obtain ⟨I1, hh12, h⟩ := obi h
  have hJ : Wp RX0 cX0_keep 2 none [] hF d 0 0 32 [(0, .ref 51), (1, .ref s2)] [] S I1 J (qE (.inl none) S r J) := by
    refine wp_aload_n dX0_keep_32 rfl rfl ?_
    refine wp_getR dX0_keep_33 flX0_11 rfl (sk51 hS) (sn51 hS) (sr51_0 hS) ?_
    refine wp_aload_n dX0_keep_36 rfl rfl ?_
    refine wp_getI dX0_keep_37 flX0_22 rfl (sk51 hS) (sn51 hS) ?_
    refine wp_aload_n dX0_keep_40 rfl rfl ?_
    refine wp_getI dX0_keep_41 flX0_18 rfl (sk51 hS) (sn51 hS) ?_
    refine wp_iadd dX0_keep_44 ?_
    refine wp_bipush (v := 40) dX0_keep_45 (by decide) ?_
    refine wp_irem dX0_keep_47 (by decide) ?_
    obtain ⟨x7, hx8, h⟩ := nm_inv h
    refine wp_topi hx8 ?_
    obtain ⟨hb9, h⟩ := ck_inv h
    refine wp_aald dX0_keep_48 (sk52 hS) (sn52 hS) hb9 (act52 hS (vp_lt hb9)) ?_
    refine wp_aload_n dX0_keep_49 rfl rfl ?_
    obtain ⟨I10, hF11, h⟩ := obi h
    refine wp_callVNv (ci := 8) (As := [.ref s2]) dX0_keep_50 lbX8_copyFrom mnX0_25 imX8_copyFrom seX8_copyFrom vc8 (ct_X8_copyFrom N 0 (Nat.le_refl _) hS (ast52 hS (vp_lt hb9)) hT2 hF11) rfl rfl (Nat.le_trans (by decide) hd) (ast52 hS (vp_lt hb9)).1 (ast52 hS (vp_lt hb9)).n0 (Nat.le_of_ble_eq_true rfl) (fun _ => ?_)
    refine wp_aload_n dX0_keep_53 rfl rfl ?_
    refine wp_dup dX0_keep_54 rfl ?_
    refine wp_getI dX0_keep_55 flX0_18 rfl (sk51 hS) (sn51 hS) ?_
    refine wp_iconst (v := 1) dX0_keep_58 (by decide) ?_
    refine wp_iadd dX0_keep_59 ?_
    refine wp_putI dX0_keep_60 (Or.inl fpX0_18) rfl ⟨rfl, rfl⟩ (sk51 hS) (sn51 hS) ?_
    exact wp_vret dX0_keep_63 rfl (by obtain rfl := sji h; exact ⟨rfl, rfl, rfl, rfl⟩)
  clear h
  have h := hh12
  clear hh12
  refine wp_icmp_ne (tgt := 32) dX0_keep_6 (by decide) (fun hc2 => ?_) (fun hc2 => ?_)
  · have h := ite_f hc2 h
    cases h
    exact wp_pick (ks := [0, 1]) rfl hJ
  · have h := ite_t hc2 h
    refine wp_aload_n dX0_keep_9 rfl rfl ?_
    refine wp_aload_n dX0_keep_10 rfl rfl ?_
    refine wp_getI dX0_keep_11 flX0_22 rfl (sk51 hS) (sn51 hS) ?_
    refine wp_iconst (v := 1) dX0_keep_14 (by decide) ?_
    refine wp_iadd dX0_keep_15 ?_
    refine wp_bipush (v := 40) dX0_keep_16 (by decide) ?_
    refine wp_irem dX0_keep_18 (by decide) ?_
    refine wp_putI dX0_keep_19 (Or.inl fpX0_22) rfl ⟨rfl, rfl⟩ (sk51 hS) (sn51 hS) ?_
    refine wp_aload_n dX0_keep_22 rfl rfl ?_
    refine wp_dup dX0_keep_23 rfl ?_
    refine wp_getI dX0_keep_24 flX0_18 rfl (sk51 hS) (sn51 hS) ?_
    obtain ⟨x3, hx4, h⟩ := nm_inv h
    refine wp_topi hx4 ?_
    refine wp_iconst (v := 1) dX0_keep_27 (by decide) ?_
    refine wp_isub dX0_keep_28 ?_
    refine wp_putI dX0_keep_29 (Or.inl fpX0_18) rfl ⟨rfl, rfl⟩ (sk51 hS) (sn51 hS) ?_
    obtain ⟨I5, hx6, h⟩ := nm_inv h
    refine wp_nmI hx6 ?_
    cases h
    exact wp_pick (ks := [0, 1]) rfl hJ
def mX0_takeBack (N : Nat) (s2 : Nat) (I : gI) : Option (gI) := if (I 51 2) ≤ 0 then (some I) else (nm (((upd2 I 51 2 ((I 51 2) - 1)) 51 1) + ((upd2 I 51 2 ((I 51 2) - 1)) 51 2)) (fun x2 => ck (x2 - x2 / 40 * 40) 40 (Option.bind (mX8_copyFrom N s2 (53 + 3 * (x2 - x2 / 40 * 40).toNatClampNeg) (upd2 I 51 2 ((I 51 2) - 1))) (fun I5 => some I5))))
set_option maxHeartbeats 4000000 in
set_option maxRecDepth 100000 in
theorem ct_X0_takeBack (N : Nat) (d : Nat) (hd : 1 ≤ d) {S : gS} {J : gJ} (hS : Sh S) {s2 : Nat} (hT2 : IsSt S s2) {I : gI} {r : gI} (h : mX0_takeBack N s2 I = some r) : Ct yX0_takeBack (wsY yX0_takeBack cX0_takeBack 2 none) d 0 0 [.ref 51, .ref s2] S I J (qE (.inl none) S r J) := by
  refine Ct.of hF (fun _ _ _ _ _ => trivial) (by decide +kernel) (Nat.le_of_ble_eq_true rfl) ⟨Or.inl (sn51 hS), Or.inl hT2.n0, trivial⟩ ?_
  show Wp RX0 cX0_takeBack 2 none [] hF d 0 0 0 [(0, .ref 51), (1, .ref s2)] [] S I J _
  unfold mX0_takeBack at h
  refine wp_aload_n dX0_takeBack_0 rfl rfl ?_
  refine wp_getI dX0_takeBack_1 flX0_18 rfl (sk51 hS) (sn51 hS) ?_
  refine wp_if_le (tgt := 38) dX0_takeBack_4 (by decide) (fun hc1 => ?_) (fun hc1 => ?_)
  · have h := ite_t hc1 h
    exact wp_vret dX0_takeBack_38 rfl (by obtain rfl := sji h; exact ⟨rfl, rfl, rfl, rfl⟩)
  · have h := ite_f hc1 h
    refine wp_aload_n dX0_takeBack_7 rfl rfl ?_
    refine wp_dup dX0_takeBack_8 rfl ?_
    refine wp_getI dX0_takeBack_9 flX0_18 rfl (sk51 hS) (sn51 hS) ?_
    refine wp_iconst (v := 1) dX0_takeBack_12 (by decide) ?_
    refine wp_isub dX0_takeBack_13 ?_
    refine wp_putI dX0_takeBack_14 (Or.inl fpX0_18) rfl ⟨rfl, rfl⟩ (sk51 hS) (sn51 hS) ?_
    refine wp_aload_n dX0_takeBack_17 rfl rfl ?_
    refine wp_aload_n dX0_takeBack_18 rfl rfl ?_
    refine wp_getR dX0_takeBack_19 flX0_11 rfl (sk51 hS) (sn51 hS) (sr51_0 hS) ?_
    refine wp_aload_n dX0_takeBack_22 rfl rfl ?_
    refine wp_getI dX0_takeBack_23 flX0_22 rfl (sk51 hS) (sn51 hS) ?_
    refine wp_aload_n dX0_takeBack_26 rfl rfl ?_
    refine wp_getI dX0_takeBack_27 flX0_18 rfl (sk51 hS) (sn51 hS) ?_
    refine wp_iadd dX0_takeBack_30 ?_
    obtain ⟨x2, hx3, h⟩ := nm_inv h
    refine wp_topi hx3 ?_
    refine wp_bipush (v := 40) dX0_takeBack_31 (by decide) ?_
    refine wp_irem dX0_takeBack_33 (by decide) ?_
    obtain ⟨hb4, h⟩ := ck_inv h
    refine wp_aald dX0_takeBack_34 (sk52 hS) (sn52 hS) hb4 (act52 hS (vp_lt hb4)) ?_
    obtain ⟨I5, hF6, h⟩ := obi h
    refine wp_callVNv (ci := 8) (As := [.ref (53 + 3 * (x2 - x2 / 40 * 40).toNatClampNeg)]) dX0_takeBack_35 lbX8_copyFrom mnX0_25 imX8_copyFrom seX8_copyFrom vc8 (ct_X8_copyFrom N 0 (Nat.le_refl _) hS hT2 (ast52 hS (vp_lt hb4)) hF6) rfl rfl (Nat.le_trans (by decide) hd) hT2.1 hT2.n0 (Nat.le_of_ble_eq_true rfl) (fun _ => ?_)
    exact wp_vret dX0_takeBack_38 rfl (by obtain rfl := sji h; exact ⟨rfl, rfl, rfl, rfl⟩)
def mX0_copyFrom_51_182_18 (N : Nat) : Nat → Int32 → gI → Option (gI)
  | 0, _, _ => none
  | n + 1, v2, I => if 40 ≤ v2 then (some I) else (ck v2 40 (Option.bind (mX8_copyFrom N (53 + 3 * v2.toNatClampNeg) (184 + 3 * v2.toNatClampNeg) I) (fun I3 => mX0_copyFrom_51_182_18 N n (v2 + 1) I3)))
def mX0_copyFrom_51_182 (N : Nat) (I : gI) : Option (gI) := Option.bind (mX0_copyFrom_51_182_18 N N 0 (upd2 (upd2 I 51 1 (I 182 1)) 51 2 ((upd2 I 51 1 (I 182 1)) 182 2))) (fun I5 => some I5)
set_option maxHeartbeats 4000000 in
set_option maxRecDepth 100000 in
theorem wX0_copyFrom_51_182_18 (N : Nat) (d : Nat) (hd : 1 ≤ d) {S : gS} {J : gJ} (hS : Sh S)  {Q : gO → gS → gI → gJ → Prop} :
    ∀ (n : Nat) (v2 : Int32) (I : gI) (res : gI), mX0_copyFrom_51_182_18 N n v2 I = some res → (∀ (O : gI), res = O → Wp RX0 cX0_copyFrom 3 none [] hF d 0 0 45 [] [] S O J Q) → Wp RX0 cX0_copyFrom 3 none [] hF d 0 0 18 [(0, .ref 51), (1, .ref 182), (2, .int v2)] [] S I J Q := by
  intro n
  induction n with
  | zero => intro v2 I res h; exact nso h
  | succ n ih =>
    intro v2 I res h kx
    rw [mX0_copyFrom_51_182_18] at h
    refine wp_iload_n dX0_copyFrom_18 rfl rfl ?_
    refine wp_bipush (v := 40) dX0_copyFrom_19 (by decide) ?_
    refine wp_icmp_ge (tgt := 45) dX0_copyFrom_21 (by decide) (fun hc1 => ?_) (fun hc1 => ?_)
    · have h := ite_t hc1 h
      exact wp_pick (ks := []) rfl (kx _ (sji h).symm)
    · have h := ite_f hc1 h
      refine wp_aload_n dX0_copyFrom_24 rfl rfl ?_
      refine wp_getR dX0_copyFrom_25 flX0_11 rfl (sk51 hS) (sn51 hS) (sr51_0 hS) ?_
      refine wp_iload_n dX0_copyFrom_28 rfl rfl ?_
      obtain ⟨hb2, h⟩ := ck_inv h
      refine wp_aald dX0_copyFrom_29 (sk52 hS) (sn52 hS) hb2 (act52 hS (vp_lt hb2)) ?_
      refine wp_aload_n dX0_copyFrom_30 rfl rfl ?_
      refine wp_getR dX0_copyFrom_31 flX0_11 rfl (sk182 hS) (sn182 hS) (sr182_0 hS) ?_
      refine wp_iload_n dX0_copyFrom_34 rfl rfl ?_
      refine wp_aald dX0_copyFrom_35 (sk183 hS) (sn183 hS) hb2 (act183 hS (vp_lt hb2)) ?_
      obtain ⟨I3, hF4, h⟩ := obi h
      refine wp_callVNv (ci := 8) (As := [.ref (184 + 3 * v2.toNatClampNeg)]) dX0_copyFrom_36 lbX8_copyFrom mnX0_25 imX8_copyFrom seX8_copyFrom vc8 (ct_X8_copyFrom N 0 (Nat.le_refl _) hS (ast52 hS (vp_lt hb2)) (ast183 hS (vp_lt hb2)) hF4) rfl rfl (Nat.le_trans (by decide) hd) (ast52 hS (vp_lt hb2)).1 (ast52 hS (vp_lt hb2)).n0 (Nat.le_of_ble_eq_true rfl) (fun _ => ?_)
      refine wp_iinc (v := 1) (ls' := [(2, .int (v2 + 1)), (0, .ref 51), (1, .ref 182)]) dX0_copyFrom_39 rfl (by decide) (Nat.le_of_ble_eq_true rfl) rfl ?_
      refine wp_goto (tgt := 18) dX0_copyFrom_42 (by decide) ?_
      exact wp_pick (ks := [1, 2, 0]) rfl (ih _ _ _ h kx)
set_option maxHeartbeats 4000000 in
set_option maxRecDepth 100000 in
theorem ct_X0_copyFrom_51_182 (N : Nat) (d : Nat) (hd : 1 ≤ d) {S : gS} {J : gJ} (hS : Sh S)  {I : gI} {r : gI} (h : mX0_copyFrom_51_182 N I = some r) : Ct yX0_copyFrom (wsY yX0_copyFrom cX0_copyFrom 3 none) d 0 0 [.ref 51, .ref 182] S I J (qE (.inl none) S r J) := by
  refine Ct.of hF (fun _ _ _ _ _ => trivial) (by decide +kernel) (Nat.le_of_ble_eq_true rfl) ⟨Or.inl (sn51 hS), Or.inl (sn182 hS), trivial⟩ ?_
  show Wp RX0 cX0_copyFrom 3 none [] hF d 0 0 0 [(0, .ref 51), (1, .ref 182)] [] S I J _
  unfold mX0_copyFrom_51_182 at h
  refine wp_aload_n dX0_copyFrom_0 rfl rfl ?_
  refine wp_aload_n dX0_copyFrom_1 rfl rfl ?_
  refine wp_getI dX0_copyFrom_2 flX0_22 rfl (sk182 hS) (sn182 hS) ?_
  refine wp_putI dX0_copyFrom_5 (Or.inl fpX0_22) rfl ⟨rfl, rfl⟩ (sk51 hS) (sn51 hS) ?_
  refine wp_aload_n dX0_copyFrom_8 rfl rfl ?_
  refine wp_aload_n dX0_copyFrom_9 rfl rfl ?_
  refine wp_getI dX0_copyFrom_10 flX0_18 rfl (sk182 hS) (sn182 hS) ?_
  refine wp_putI dX0_copyFrom_13 (Or.inl fpX0_18) rfl ⟨rfl, rfl⟩ (sk51 hS) (sn51 hS) ?_
  refine wp_iconst (v := 0) dX0_copyFrom_16 (by decide) ?_
  refine wp_istore_n (ls' := [(2, .int 0), (0, .ref 51), (1, .ref 182)]) dX0_copyFrom_17 rfl (Nat.le_of_ble_eq_true rfl) rfl ?_
  obtain ⟨I5, hL96, h⟩ := obi h
  refine wp_pick (ks := [1, 2, 0]) rfl (wX0_copyFrom_51_182_18 N d hd hS   N 0 (upd2 (upd2 I 51 1 (I 182 1)) 51 2 ((upd2 I 51 1 (I 182 1)) 182 2)) _ hL96 (fun _ e7 => ?_))
  cases e7
  exact wp_vret dX0_copyFrom_45 rfl (by obtain rfl := sji h; exact ⟨rfl, rfl, rfl, rfl⟩)
def mX0_copyFrom_182_51_18 (N : Nat) : Nat → Int32 → gI → Option (gI)
  | 0, _, _ => none
  | n + 1, v2, I => if 40 ≤ v2 then (some I) else (ck v2 40 (Option.bind (mX8_copyFrom N (184 + 3 * v2.toNatClampNeg) (53 + 3 * v2.toNatClampNeg) I) (fun I3 => mX0_copyFrom_182_51_18 N n (v2 + 1) I3)))
def mX0_copyFrom_182_51 (N : Nat) (I : gI) : Option (gI) := Option.bind (mX0_copyFrom_182_51_18 N N 0 (upd2 (upd2 I 182 1 (I 51 1)) 182 2 ((upd2 I 182 1 (I 51 1)) 51 2))) (fun I5 => some I5)
set_option maxHeartbeats 4000000 in
set_option maxRecDepth 100000 in
theorem wX0_copyFrom_182_51_18 (N : Nat) (d : Nat) (hd : 1 ≤ d) {S : gS} {J : gJ} (hS : Sh S)  {Q : gO → gS → gI → gJ → Prop} :
    ∀ (n : Nat) (v2 : Int32) (I : gI) (res : gI), mX0_copyFrom_182_51_18 N n v2 I = some res → (∀ (O : gI), res = O → Wp RX0 cX0_copyFrom 3 none [] hF d 0 0 45 [] [] S O J Q) → Wp RX0 cX0_copyFrom 3 none [] hF d 0 0 18 [(0, .ref 182), (1, .ref 51), (2, .int v2)] [] S I J Q := by
  intro n
  induction n with
  | zero => intro v2 I res h; exact nso h
  | succ n ih =>
    intro v2 I res h kx
    rw [mX0_copyFrom_182_51_18] at h
    refine wp_iload_n dX0_copyFrom_18 rfl rfl ?_
    refine wp_bipush (v := 40) dX0_copyFrom_19 (by decide) ?_
    refine wp_icmp_ge (tgt := 45) dX0_copyFrom_21 (by decide) (fun hc1 => ?_) (fun hc1 => ?_)
    · have h := ite_t hc1 h
      exact wp_pick (ks := []) rfl (kx _ (sji h).symm)
    · have h := ite_f hc1 h
      refine wp_aload_n dX0_copyFrom_24 rfl rfl ?_
      refine wp_getR dX0_copyFrom_25 flX0_11 rfl (sk182 hS) (sn182 hS) (sr182_0 hS) ?_
      refine wp_iload_n dX0_copyFrom_28 rfl rfl ?_
      obtain ⟨hb2, h⟩ := ck_inv h
      refine wp_aald dX0_copyFrom_29 (sk183 hS) (sn183 hS) hb2 (act183 hS (vp_lt hb2)) ?_
      refine wp_aload_n dX0_copyFrom_30 rfl rfl ?_
      refine wp_getR dX0_copyFrom_31 flX0_11 rfl (sk51 hS) (sn51 hS) (sr51_0 hS) ?_
      refine wp_iload_n dX0_copyFrom_34 rfl rfl ?_
      refine wp_aald dX0_copyFrom_35 (sk52 hS) (sn52 hS) hb2 (act52 hS (vp_lt hb2)) ?_
      obtain ⟨I3, hF4, h⟩ := obi h
      refine wp_callVNv (ci := 8) (As := [.ref (53 + 3 * v2.toNatClampNeg)]) dX0_copyFrom_36 lbX8_copyFrom mnX0_25 imX8_copyFrom seX8_copyFrom vc8 (ct_X8_copyFrom N 0 (Nat.le_refl _) hS (ast183 hS (vp_lt hb2)) (ast52 hS (vp_lt hb2)) hF4) rfl rfl (Nat.le_trans (by decide) hd) (ast183 hS (vp_lt hb2)).1 (ast183 hS (vp_lt hb2)).n0 (Nat.le_of_ble_eq_true rfl) (fun _ => ?_)
      refine wp_iinc (v := 1) (ls' := [(2, .int (v2 + 1)), (0, .ref 182), (1, .ref 51)]) dX0_copyFrom_39 rfl (by decide) (Nat.le_of_ble_eq_true rfl) rfl ?_
      refine wp_goto (tgt := 18) dX0_copyFrom_42 (by decide) ?_
      exact wp_pick (ks := [1, 2, 0]) rfl (ih _ _ _ h kx)
set_option maxHeartbeats 4000000 in
set_option maxRecDepth 100000 in
theorem ct_X0_copyFrom_182_51 (N : Nat) (d : Nat) (hd : 1 ≤ d) {S : gS} {J : gJ} (hS : Sh S)  {I : gI} {r : gI} (h : mX0_copyFrom_182_51 N I = some r) : Ct yX0_copyFrom (wsY yX0_copyFrom cX0_copyFrom 3 none) d 0 0 [.ref 182, .ref 51] S I J (qE (.inl none) S r J) := by
  refine Ct.of hF (fun _ _ _ _ _ => trivial) (by decide +kernel) (Nat.le_of_ble_eq_true rfl) ⟨Or.inl (sn182 hS), Or.inl (sn51 hS), trivial⟩ ?_
  show Wp RX0 cX0_copyFrom 3 none [] hF d 0 0 0 [(0, .ref 182), (1, .ref 51)] [] S I J _
  unfold mX0_copyFrom_182_51 at h
  refine wp_aload_n dX0_copyFrom_0 rfl rfl ?_
  refine wp_aload_n dX0_copyFrom_1 rfl rfl ?_
  refine wp_getI dX0_copyFrom_2 flX0_22 rfl (sk51 hS) (sn51 hS) ?_
  refine wp_putI dX0_copyFrom_5 (Or.inl fpX0_22) rfl ⟨rfl, rfl⟩ (sk182 hS) (sn182 hS) ?_
  refine wp_aload_n dX0_copyFrom_8 rfl rfl ?_
  refine wp_aload_n dX0_copyFrom_9 rfl rfl ?_
  refine wp_getI dX0_copyFrom_10 flX0_18 rfl (sk51 hS) (sn51 hS) ?_
  refine wp_putI dX0_copyFrom_13 (Or.inl fpX0_18) rfl ⟨rfl, rfl⟩ (sk182 hS) (sn182 hS) ?_
  refine wp_iconst (v := 0) dX0_copyFrom_16 (by decide) ?_
  refine wp_istore_n (ls' := [(2, .int 0), (0, .ref 182), (1, .ref 51)]) dX0_copyFrom_17 rfl (Nat.le_of_ble_eq_true rfl) rfl ?_
  obtain ⟨I5, hL96, h⟩ := obi h
  refine wp_pick (ks := [1, 2, 0]) rfl (wX0_copyFrom_182_51_18 N d hd hS   N 0 (upd2 (upd2 I 182 1 (I 51 1)) 182 2 ((upd2 I 182 1 (I 51 1)) 51 2)) _ hL96 (fun _ e7 => ?_))
  cases e7
  exact wp_vret dX0_copyFrom_45 rfl (by obtain rfl := sji h; exact ⟨rfl, rfl, rfl, rfl⟩)
def mX7_clear (I : gI) : Option (gI) := some (upd2 I 173 5 0)
set_option maxHeartbeats 4000000 in
set_option maxRecDepth 100000 in
theorem ct_X7_clear (d : Nat) (hd : 0 ≤ d) {S : gS} {J : gJ} (hS : Sh S)  {I : gI} {r : gI} (h : mX7_clear I = some r) : Ct yX7_clear (wsY yX7_clear cX7_clear 1 none) d 0 0 [.ref 173] S I J (qE (.inl none) S r J) := by
  refine Ct.of hF (fun _ _ _ _ _ => trivial) (by decide +kernel) (Nat.le_of_ble_eq_true rfl) ⟨Or.inl (sn173 hS), trivial⟩ ?_
  show Wp RX7 cX7_clear 1 none [] hF d 0 0 0 [(0, .ref 173)] [] S I J _
  unfold mX7_clear at h
  refine wp_aload_n dX7_clear_0 rfl rfl ?_
  refine wp_iconst (v := 0) dX7_clear_1 (by decide) ?_
  refine wp_putI dX7_clear_2 (Or.inl fpX7_28) rfl ⟨rfl, rfl⟩ (sk173 hS) (sn173 hS) ?_
  exact wp_vret dX7_clear_5 rfl (by obtain rfl := sji h; exact ⟨rfl, rfl, rfl, rfl⟩)
def mX7_add (a2 : Int32) (a3 : Int32) (a4 : Int32) (a5 : Int32) (a6 : Int32) (I : gI) : Option (gI) := if 8 ≤ (I 173 5) then (some I) else (ck (I 173 5) 8 (ck ((upd2 I 174 (I 173 5).toNatClampNeg a2) 173 5) 8 (nm (upd2 (upd2 I 174 (I 173 5).toNatClampNeg a2) 175 ((upd2 I 174 (I 173 5).toNatClampNeg a2) 173 5).toNatClampNeg a3) (fun I4 => ck (I4 173 5) 8 (ck ((upd2 I4 176 (I4 173 5).toNatClampNeg a4) 173 5) 8 (nm (upd2 (upd2 I4 176 (I4 173 5).toNatClampNeg a4) 177 ((upd2 I4 176 (I4 173 5).toNatClampNeg a4) 173 5).toNatClampNeg a5) (fun I8 => ck (I8 173 5) 8 (nm ((upd2 I8 178 (I8 173 5).toNatClampNeg (vp_nar .boolean a6)) 173 5) (fun x11 => nm (upd2 (upd2 I8 178 (I8 173 5).toNatClampNeg (vp_nar .boolean a6)) 173 5 (x11 + 1)) (fun I13 => some I13))))))))))
set_option maxHeartbeats 4000000 in
set_option maxRecDepth 100000 in
theorem ct_X7_add (d : Nat) (hd : 0 ≤ d) {S : gS} {J : gJ} (hS : Sh S)  {a2 : Int32} {a3 : Int32} {a4 : Int32} {a5 : Int32} {a6 : Int32} {I : gI} {r : gI} (h : mX7_add a2 a3 a4 a5 a6 I = some r) : Ct yX7_add (wsY yX7_add cX7_add 6 none) d 0 0 [.ref 173, .int a2, .int a3, .int a4, .int a5, .int a6] S I J (qE (.inl none) S r J) := by
  refine Ct.of hF (fun _ _ _ _ _ => trivial) (by decide +kernel) (Nat.le_of_ble_eq_true rfl) ⟨Or.inl (sn173 hS), trivial, trivial, trivial, trivial, trivial, trivial⟩ ?_
  show Wp RX7 cX7_add 6 none [] hF d 0 0 0 [(0, .ref 173), (1, .int a2), (2, .int a3), (3, .int a4), (4, .int a5), (5, .int a6)] [] S I J _
  unfold mX7_add at h
  refine wp_aload_n dX7_add_0 rfl rfl ?_
  refine wp_getI dX7_add_1 flX7_28 rfl (sk173 hS) (sn173 hS) ?_
  refine wp_bipush (v := 8) dX7_add_4 (by decide) ?_
  refine wp_icmp_ge (tgt := 71) dX7_add_6 (by decide) (fun hc1 => ?_) (fun hc1 => ?_)
  · have h := ite_t hc1 h
    exact wp_vret dX7_add_71 rfl (by obtain rfl := sji h; exact ⟨rfl, rfl, rfl, rfl⟩)
  · have h := ite_f hc1 h
    refine wp_aload_n dX7_add_9 rfl rfl ?_
    refine wp_getR dX7_add_10 flX7_9 rfl (sk173 hS) (sn173 hS) (sr173_0 hS) ?_
    refine wp_aload_n dX7_add_13 rfl rfl ?_
    refine wp_getI dX7_add_14 flX7_28 rfl (sk173 hS) (sn173 hS) ?_
    refine wp_iload_n dX7_add_17 rfl rfl ?_
    obtain ⟨hb2, h⟩ := ck_inv h
    refine wp_iast dX7_add_18 (sk174 hS) (sn174 hS) hb2 ?_
    refine wp_aload_n dX7_add_19 rfl rfl ?_
    refine wp_getR dX7_add_20 flX7_15 rfl (sk173 hS) (sn173 hS) (sr173_1 hS) ?_
    refine wp_aload_n dX7_add_23 rfl rfl ?_
    refine wp_getI dX7_add_24 flX7_28 rfl (sk173 hS) (sn173 hS) ?_
    refine wp_iload_n dX7_add_27 rfl rfl ?_
    obtain ⟨hb3, h⟩ := ck_inv h
    refine wp_iast dX7_add_28 (sk175 hS) (sn175 hS) hb3 ?_
    obtain ⟨I4, hx5, h⟩ := nm_inv h
    refine wp_nmI hx5 ?_
    refine wp_aload_n dX7_add_29 rfl rfl ?_
    refine wp_getR dX7_add_30 flX7_18 rfl (sk173 hS) (sn173 hS) (sr173_2 hS) ?_
    refine wp_aload_n dX7_add_33 rfl rfl ?_
    refine wp_getI dX7_add_34 flX7_28 rfl (sk173 hS) (sn173 hS) ?_
    refine wp_iload_n dX7_add_37 rfl rfl ?_
    obtain ⟨hb6, h⟩ := ck_inv h
    refine wp_iast dX7_add_38 (sk176 hS) (sn176 hS) hb6 ?_
    refine wp_aload_n dX7_add_39 rfl rfl ?_
    refine wp_getR dX7_add_40 flX7_21 rfl (sk173 hS) (sn173 hS) (sr173_3 hS) ?_
    refine wp_aload_n dX7_add_43 rfl rfl ?_
    refine wp_getI dX7_add_44 flX7_28 rfl (sk173 hS) (sn173 hS) ?_
    refine wp_iload dX7_add_47 rfl ?_
    obtain ⟨hb7, h⟩ := ck_inv h
    refine wp_iast dX7_add_49 (sk177 hS) (sn177 hS) hb7 ?_
    obtain ⟨I8, hx9, h⟩ := nm_inv h
    refine wp_nmI hx9 ?_
    refine wp_aload_n dX7_add_50 rfl rfl ?_
    refine wp_getR dX7_add_51 flX7_24 rfl (sk173 hS) (sn173 hS) (sr173_4 hS) ?_
    refine wp_aload_n dX7_add_54 rfl rfl ?_
    refine wp_getI dX7_add_55 flX7_28 rfl (sk173 hS) (sn173 hS) ?_
    refine wp_iload dX7_add_58 rfl ?_
    obtain ⟨hb10, h⟩ := ck_inv h
    refine wp_zast dX7_add_60 (sk178 hS) (sn178 hS) hb10 ?_
    refine wp_aload_n dX7_add_61 rfl rfl ?_
    refine wp_dup dX7_add_62 rfl ?_
    refine wp_getI dX7_add_63 flX7_28 rfl (sk173 hS) (sn173 hS) ?_
    obtain ⟨x11, hx12, h⟩ := nm_inv h
    refine wp_topi hx12 ?_
    refine wp_iconst (v := 1) dX7_add_66 (by decide) ?_
    refine wp_iadd dX7_add_67 ?_
    refine wp_putI dX7_add_68 (Or.inl fpX7_28) rfl ⟨rfl, rfl⟩ (sk173 hS) (sn173 hS) ?_
    obtain ⟨I13, hx14, h⟩ := nm_inv h
    refine wp_nmI hx14 ?_
    exact wp_vret dX7_add_71 rfl (by obtain rfl := sji h; exact ⟨rfl, rfl, rfl, rfl⟩)
def mX7_copyFrom_173_304_10  : Nat → Int32 → gI → Option (gI)
  | 0, _, _ => none
  | n + 1, v2, I => if 8 ≤ v2 then (some I) else (ck v2 8 (nm ((upd2 I 174 v2.toNatClampNeg (I 305 v2.toNatClampNeg)) 306 v2.toNatClampNeg) (fun x3 => nm (upd2 (upd2 I 174 v2.toNatClampNeg (I 305 v2.toNatClampNeg)) 175 v2.toNatClampNeg x3) (fun I5 => nm ((upd2 I5 176 v2.toNatClampNeg (I5 307 v2.toNatClampNeg)) 308 v2.toNatClampNeg) (fun x7 => nm (upd2 (upd2 I5 176 v2.toNatClampNeg (I5 307 v2.toNatClampNeg)) 177 v2.toNatClampNeg x7) (fun I9 => nm (upd2 I9 178 v2.toNatClampNeg (vp_nar .boolean (I9 309 v2.toNatClampNeg))) (fun I11 => mX7_copyFrom_173_304_10 n (v2 + 1) I11)))))))
def mX7_copyFrom_173_304 (N : Nat) (I : gI) : Option (gI) := Option.bind (mX7_copyFrom_173_304_10 N 0 (upd2 I 173 5 (I 304 5))) (fun I13 => some I13)
set_option maxHeartbeats 4000000 in
set_option maxRecDepth 100000 in
theorem wX7_copyFrom_173_304_10 (d : Nat) (hd : 0 ≤ d) {S : gS} {J : gJ} (hS : Sh S)  {Q : gO → gS → gI → gJ → Prop} :
    ∀ (n : Nat) (v2 : Int32) (I : gI) (res : gI), mX7_copyFrom_173_304_10 n v2 I = some res → (∀ (O : gI), res = O → Wp RX7 cX7_copyFrom 3 none [] hF d 0 0 82 [] [] S O J Q) → Wp RX7 cX7_copyFrom 3 none [] hF d 0 0 10 [(0, .ref 173), (1, .ref 304), (2, .int v2)] [] S I J Q := by
  intro n
  induction n with
  | zero => intro v2 I res h; exact nso h
  | succ n ih =>
    intro v2 I res h kx
    rw [mX7_copyFrom_173_304_10] at h
    refine wp_iload_n dX7_copyFrom_10 rfl rfl ?_
    refine wp_bipush (v := 8) dX7_copyFrom_11 (by decide) ?_
    refine wp_icmp_ge (tgt := 82) dX7_copyFrom_13 (by decide) (fun hc1 => ?_) (fun hc1 => ?_)
    · have h := ite_t hc1 h
      exact wp_pick (ks := []) rfl (kx _ (sji h).symm)
    · have h := ite_f hc1 h
      refine wp_aload_n dX7_copyFrom_16 rfl rfl ?_
      refine wp_getR dX7_copyFrom_17 flX7_9 rfl (sk173 hS) (sn173 hS) (sr173_0 hS) ?_
      refine wp_iload_n dX7_copyFrom_20 rfl rfl ?_
      refine wp_aload_n dX7_copyFrom_21 rfl rfl ?_
      refine wp_getR dX7_copyFrom_22 flX7_9 rfl (sk304 hS) (sn304 hS) (sr304_0 hS) ?_
      refine wp_iload_n dX7_copyFrom_25 rfl rfl ?_
      obtain ⟨hb2, h⟩ := ck_inv h
      refine wp_iald dX7_copyFrom_26 (sk305 hS) (sn305 hS) hb2 ?_
      refine wp_iast dX7_copyFrom_27 (sk174 hS) (sn174 hS) hb2 ?_
      refine wp_aload_n dX7_copyFrom_28 rfl rfl ?_
      refine wp_getR dX7_copyFrom_29 flX7_15 rfl (sk173 hS) (sn173 hS) (sr173_1 hS) ?_
      refine wp_iload_n dX7_copyFrom_32 rfl rfl ?_
      refine wp_aload_n dX7_copyFrom_33 rfl rfl ?_
      refine wp_getR dX7_copyFrom_34 flX7_15 rfl (sk304 hS) (sn304 hS) (sr304_1 hS) ?_
      refine wp_iload_n dX7_copyFrom_37 rfl rfl ?_
      refine wp_iald dX7_copyFrom_38 (sk306 hS) (sn306 hS) hb2 ?_
      obtain ⟨x3, hx4, h⟩ := nm_inv h
      refine wp_topi hx4 ?_
      refine wp_iast dX7_copyFrom_39 (sk175 hS) (sn175 hS) hb2 ?_
      obtain ⟨I5, hx6, h⟩ := nm_inv h
      refine wp_nmI hx6 ?_
      refine wp_aload_n dX7_copyFrom_40 rfl rfl ?_
      refine wp_getR dX7_copyFrom_41 flX7_18 rfl (sk173 hS) (sn173 hS) (sr173_2 hS) ?_
      refine wp_iload_n dX7_copyFrom_44 rfl rfl ?_
      refine wp_aload_n dX7_copyFrom_45 rfl rfl ?_
      refine wp_getR dX7_copyFrom_46 flX7_18 rfl (sk304 hS) (sn304 hS) (sr304_2 hS) ?_
      refine wp_iload_n dX7_copyFrom_49 rfl rfl ?_
      refine wp_iald dX7_copyFrom_50 (sk307 hS) (sn307 hS) hb2 ?_
      refine wp_iast dX7_copyFrom_51 (sk176 hS) (sn176 hS) hb2 ?_
      refine wp_aload_n dX7_copyFrom_52 rfl rfl ?_
      refine wp_getR dX7_copyFrom_53 flX7_21 rfl (sk173 hS) (sn173 hS) (sr173_3 hS) ?_
      refine wp_iload_n dX7_copyFrom_56 rfl rfl ?_
      refine wp_aload_n dX7_copyFrom_57 rfl rfl ?_
      refine wp_getR dX7_copyFrom_58 flX7_21 rfl (sk304 hS) (sn304 hS) (sr304_3 hS) ?_
      refine wp_iload_n dX7_copyFrom_61 rfl rfl ?_
      refine wp_iald dX7_copyFrom_62 (sk308 hS) (sn308 hS) hb2 ?_
      obtain ⟨x7, hx8, h⟩ := nm_inv h
      refine wp_topi hx8 ?_
      refine wp_iast dX7_copyFrom_63 (sk177 hS) (sn177 hS) hb2 ?_
      obtain ⟨I9, hx10, h⟩ := nm_inv h
      refine wp_nmI hx10 ?_
      refine wp_aload_n dX7_copyFrom_64 rfl rfl ?_
      refine wp_getR dX7_copyFrom_65 flX7_24 rfl (sk173 hS) (sn173 hS) (sr173_4 hS) ?_
      refine wp_iload_n dX7_copyFrom_68 rfl rfl ?_
      refine wp_aload_n dX7_copyFrom_69 rfl rfl ?_
      refine wp_getR dX7_copyFrom_70 flX7_24 rfl (sk304 hS) (sn304 hS) (sr304_4 hS) ?_
      refine wp_iload_n dX7_copyFrom_73 rfl rfl ?_
      refine wp_zald dX7_copyFrom_74 (sk309 hS) (sn309 hS) hb2 ?_
      refine wp_zast dX7_copyFrom_75 (sk178 hS) (sn178 hS) hb2 ?_
      obtain ⟨I11, hx12, h⟩ := nm_inv h
      refine wp_nmI hx12 ?_
      refine wp_iinc (v := 1) (ls' := [(2, .int (v2 + 1)), (0, .ref 173), (1, .ref 304)]) dX7_copyFrom_76 rfl (by decide) (Nat.le_of_ble_eq_true rfl) rfl ?_
      refine wp_goto (tgt := 10) dX7_copyFrom_79 (by decide) ?_
      exact wp_pick (ks := [1, 2, 0]) rfl (ih _ _ _ h kx)
set_option maxHeartbeats 4000000 in
set_option maxRecDepth 100000 in
theorem ct_X7_copyFrom_173_304 (N : Nat) (d : Nat) (hd : 0 ≤ d) {S : gS} {J : gJ} (hS : Sh S)  {I : gI} {r : gI} (h : mX7_copyFrom_173_304 N I = some r) : Ct yX7_copyFrom (wsY yX7_copyFrom cX7_copyFrom 3 none) d 0 0 [.ref 173, .ref 304] S I J (qE (.inl none) S r J) := by
  refine Ct.of hF (fun _ _ _ _ _ => trivial) (by decide +kernel) (Nat.le_of_ble_eq_true rfl) ⟨Or.inl (sn173 hS), Or.inl (sn304 hS), trivial⟩ ?_
  show Wp RX7 cX7_copyFrom 3 none [] hF d 0 0 0 [(0, .ref 173), (1, .ref 304)] [] S I J _
  unfold mX7_copyFrom_173_304 at h
  refine wp_aload_n dX7_copyFrom_0 rfl rfl ?_
  refine wp_aload_n dX7_copyFrom_1 rfl rfl ?_
  refine wp_getI dX7_copyFrom_2 flX7_28 rfl (sk304 hS) (sn304 hS) ?_
  refine wp_putI dX7_copyFrom_5 (Or.inl fpX7_28) rfl ⟨rfl, rfl⟩ (sk173 hS) (sn173 hS) ?_
  refine wp_iconst (v := 0) dX7_copyFrom_8 (by decide) ?_
  refine wp_istore_n (ls' := [(2, .int 0), (0, .ref 173), (1, .ref 304)]) dX7_copyFrom_9 rfl (Nat.le_of_ble_eq_true rfl) rfl ?_
  obtain ⟨I13, hL914, h⟩ := obi h
  refine wp_pick (ks := [1, 2, 0]) rfl (wX7_copyFrom_173_304_10 d hd hS   N 0 (upd2 I 173 5 (I 304 5)) _ hL914 (fun _ e15 => ?_))
  cases e15
  exact wp_vret dX7_copyFrom_82 rfl (by obtain rfl := sji h; exact ⟨rfl, rfl, rfl, rfl⟩)
def mX7_copyFrom_304_173_10  : Nat → Int32 → gI → Option (gI)
  | 0, _, _ => none
  | n + 1, v2, I => if 8 ≤ v2 then (some I) else (ck v2 8 (nm ((upd2 I 305 v2.toNatClampNeg (I 174 v2.toNatClampNeg)) 175 v2.toNatClampNeg) (fun x3 => nm (upd2 (upd2 I 305 v2.toNatClampNeg (I 174 v2.toNatClampNeg)) 306 v2.toNatClampNeg x3) (fun I5 => nm ((upd2 I5 307 v2.toNatClampNeg (I5 176 v2.toNatClampNeg)) 177 v2.toNatClampNeg) (fun x7 => nm (upd2 (upd2 I5 307 v2.toNatClampNeg (I5 176 v2.toNatClampNeg)) 308 v2.toNatClampNeg x7) (fun I9 => nm (upd2 I9 309 v2.toNatClampNeg (vp_nar .boolean (I9 178 v2.toNatClampNeg))) (fun I11 => mX7_copyFrom_304_173_10 n (v2 + 1) I11)))))))
def mX7_copyFrom_304_173 (N : Nat) (I : gI) : Option (gI) := Option.bind (mX7_copyFrom_304_173_10 N 0 (upd2 I 304 5 (I 173 5))) (fun I13 => some I13)
set_option maxHeartbeats 4000000 in
set_option maxRecDepth 100000 in
theorem wX7_copyFrom_304_173_10 (d : Nat) (hd : 0 ≤ d) {S : gS} {J : gJ} (hS : Sh S)  {Q : gO → gS → gI → gJ → Prop} :
    ∀ (n : Nat) (v2 : Int32) (I : gI) (res : gI), mX7_copyFrom_304_173_10 n v2 I = some res → (∀ (O : gI), res = O → Wp RX7 cX7_copyFrom 3 none [] hF d 0 0 82 [] [] S O J Q) → Wp RX7 cX7_copyFrom 3 none [] hF d 0 0 10 [(0, .ref 304), (1, .ref 173), (2, .int v2)] [] S I J Q := by
  intro n
  induction n with
  | zero => intro v2 I res h; exact nso h
  | succ n ih =>
    intro v2 I res h kx
    rw [mX7_copyFrom_304_173_10] at h
    refine wp_iload_n dX7_copyFrom_10 rfl rfl ?_
    refine wp_bipush (v := 8) dX7_copyFrom_11 (by decide) ?_
    refine wp_icmp_ge (tgt := 82) dX7_copyFrom_13 (by decide) (fun hc1 => ?_) (fun hc1 => ?_)
    · have h := ite_t hc1 h
      exact wp_pick (ks := []) rfl (kx _ (sji h).symm)
    · have h := ite_f hc1 h
      refine wp_aload_n dX7_copyFrom_16 rfl rfl ?_
      refine wp_getR dX7_copyFrom_17 flX7_9 rfl (sk304 hS) (sn304 hS) (sr304_0 hS) ?_
      refine wp_iload_n dX7_copyFrom_20 rfl rfl ?_
      refine wp_aload_n dX7_copyFrom_21 rfl rfl ?_
      refine wp_getR dX7_copyFrom_22 flX7_9 rfl (sk173 hS) (sn173 hS) (sr173_0 hS) ?_
      refine wp_iload_n dX7_copyFrom_25 rfl rfl ?_
      obtain ⟨hb2, h⟩ := ck_inv h
      refine wp_iald dX7_copyFrom_26 (sk174 hS) (sn174 hS) hb2 ?_
      refine wp_iast dX7_copyFrom_27 (sk305 hS) (sn305 hS) hb2 ?_
      refine wp_aload_n dX7_copyFrom_28 rfl rfl ?_
      refine wp_getR dX7_copyFrom_29 flX7_15 rfl (sk304 hS) (sn304 hS) (sr304_1 hS) ?_
      refine wp_iload_n dX7_copyFrom_32 rfl rfl ?_
      refine wp_aload_n dX7_copyFrom_33 rfl rfl ?_
      refine wp_getR dX7_copyFrom_34 flX7_15 rfl (sk173 hS) (sn173 hS) (sr173_1 hS) ?_
      refine wp_iload_n dX7_copyFrom_37 rfl rfl ?_
      refine wp_iald dX7_copyFrom_38 (sk175 hS) (sn175 hS) hb2 ?_
      obtain ⟨x3, hx4, h⟩ := nm_inv h
      refine wp_topi hx4 ?_
      refine wp_iast dX7_copyFrom_39 (sk306 hS) (sn306 hS) hb2 ?_
      obtain ⟨I5, hx6, h⟩ := nm_inv h
      refine wp_nmI hx6 ?_
      refine wp_aload_n dX7_copyFrom_40 rfl rfl ?_
      refine wp_getR dX7_copyFrom_41 flX7_18 rfl (sk304 hS) (sn304 hS) (sr304_2 hS) ?_
      refine wp_iload_n dX7_copyFrom_44 rfl rfl ?_
      refine wp_aload_n dX7_copyFrom_45 rfl rfl ?_
      refine wp_getR dX7_copyFrom_46 flX7_18 rfl (sk173 hS) (sn173 hS) (sr173_2 hS) ?_
      refine wp_iload_n dX7_copyFrom_49 rfl rfl ?_
      refine wp_iald dX7_copyFrom_50 (sk176 hS) (sn176 hS) hb2 ?_
      refine wp_iast dX7_copyFrom_51 (sk307 hS) (sn307 hS) hb2 ?_
      refine wp_aload_n dX7_copyFrom_52 rfl rfl ?_
      refine wp_getR dX7_copyFrom_53 flX7_21 rfl (sk304 hS) (sn304 hS) (sr304_3 hS) ?_
      refine wp_iload_n dX7_copyFrom_56 rfl rfl ?_
      refine wp_aload_n dX7_copyFrom_57 rfl rfl ?_
      refine wp_getR dX7_copyFrom_58 flX7_21 rfl (sk173 hS) (sn173 hS) (sr173_3 hS) ?_
      refine wp_iload_n dX7_copyFrom_61 rfl rfl ?_
      refine wp_iald dX7_copyFrom_62 (sk177 hS) (sn177 hS) hb2 ?_
      obtain ⟨x7, hx8, h⟩ := nm_inv h
      refine wp_topi hx8 ?_
      refine wp_iast dX7_copyFrom_63 (sk308 hS) (sn308 hS) hb2 ?_
      obtain ⟨I9, hx10, h⟩ := nm_inv h
      refine wp_nmI hx10 ?_
      refine wp_aload_n dX7_copyFrom_64 rfl rfl ?_
      refine wp_getR dX7_copyFrom_65 flX7_24 rfl (sk304 hS) (sn304 hS) (sr304_4 hS) ?_
      refine wp_iload_n dX7_copyFrom_68 rfl rfl ?_
      refine wp_aload_n dX7_copyFrom_69 rfl rfl ?_
      refine wp_getR dX7_copyFrom_70 flX7_24 rfl (sk173 hS) (sn173 hS) (sr173_4 hS) ?_
      refine wp_iload_n dX7_copyFrom_73 rfl rfl ?_
      refine wp_zald dX7_copyFrom_74 (sk178 hS) (sn178 hS) hb2 ?_
      refine wp_zast dX7_copyFrom_75 (sk309 hS) (sn309 hS) hb2 ?_
      obtain ⟨I11, hx12, h⟩ := nm_inv h
      refine wp_nmI hx12 ?_
      refine wp_iinc (v := 1) (ls' := [(2, .int (v2 + 1)), (0, .ref 304), (1, .ref 173)]) dX7_copyFrom_76 rfl (by decide) (Nat.le_of_ble_eq_true rfl) rfl ?_
      refine wp_goto (tgt := 10) dX7_copyFrom_79 (by decide) ?_
      exact wp_pick (ks := [1, 2, 0]) rfl (ih _ _ _ h kx)
set_option maxHeartbeats 4000000 in
set_option maxRecDepth 100000 in
theorem ct_X7_copyFrom_304_173 (N : Nat) (d : Nat) (hd : 0 ≤ d) {S : gS} {J : gJ} (hS : Sh S)  {I : gI} {r : gI} (h : mX7_copyFrom_304_173 N I = some r) : Ct yX7_copyFrom (wsY yX7_copyFrom cX7_copyFrom 3 none) d 0 0 [.ref 304, .ref 173] S I J (qE (.inl none) S r J) := by
  refine Ct.of hF (fun _ _ _ _ _ => trivial) (by decide +kernel) (Nat.le_of_ble_eq_true rfl) ⟨Or.inl (sn304 hS), Or.inl (sn173 hS), trivial⟩ ?_
  show Wp RX7 cX7_copyFrom 3 none [] hF d 0 0 0 [(0, .ref 304), (1, .ref 173)] [] S I J _
  unfold mX7_copyFrom_304_173 at h
  refine wp_aload_n dX7_copyFrom_0 rfl rfl ?_
  refine wp_aload_n dX7_copyFrom_1 rfl rfl ?_
  refine wp_getI dX7_copyFrom_2 flX7_28 rfl (sk173 hS) (sn173 hS) ?_
  refine wp_putI dX7_copyFrom_5 (Or.inl fpX7_28) rfl ⟨rfl, rfl⟩ (sk304 hS) (sn304 hS) ?_
  refine wp_iconst (v := 0) dX7_copyFrom_8 (by decide) ?_
  refine wp_istore_n (ls' := [(2, .int 0), (0, .ref 304), (1, .ref 173)]) dX7_copyFrom_9 rfl (Nat.le_of_ble_eq_true rfl) rfl ?_
  obtain ⟨I13, hL914, h⟩ := obi h
  refine wp_pick (ks := [1, 2, 0]) rfl (wX7_copyFrom_304_173_10 d hd hS   N 0 (upd2 I 304 5 (I 173 5)) _ hL914 (fun _ e15 => ?_))
  cases e15
  exact wp_vret dX7_copyFrom_82 rfl (by obtain rfl := sji h; exact ⟨rfl, rfl, rfl, rfl⟩)
def mX7_wideEnough_5 (N : Nat) (u2 : Nat) (k2 : Int32) (I : gI) : Nat → Int32 → Int32 → Option (Int32)
  | 0, _, _ => none
  | n + 1, v3, v4 => if (I 2 1) ≤ v4 then (some v3) else (ck k2 8 (Option.bind (mX2_poolWithout N u2 (-1) v4 (I 177 k2.toNatClampNeg) I) (fun r3 => if r3 < (I 176 k2.toNatClampNeg) then (mX7_wideEnough_5 N u2 k2 I n v3 (v4 + 1)) else (mX7_wideEnough_5 N u2 k2 I n (v3 ||| ((1 : Int32) <<< (v4 &&& 31))) (v4 + 1)))))
def mX7_wideEnough (N : Nat) (u2 : Nat) (a3 : Int32) (I : gI) : Option (Int32) := Option.bind (mX7_wideEnough_5 N u2 a3 I N 0 0) (fun y6 => some (y6 &&& (I u2 2)))
set_option maxHeartbeats 4000000 in
set_option maxRecDepth 100000 in
theorem wX7_wideEnough_5 (N : Nat) (d : Nat) (hd : 1 ≤ d) {S : gS} {J : gJ} (hS : Sh S) (t2 : Nat) (u2 : Nat) (hL2 : IsLe S t2 u2) (k2 : Int32) (I : gI) {Q : gO → gS → gI → gJ → Prop} :
    ∀ (n : Nat) (v3 : Int32) (v4 : Int32) (res : Int32), mX7_wideEnough_5 N u2 k2 I n v3 v4 = some res → (∀ (o3 : Int32), res = o3 → Wp RX7 cX7_wideEnough 5 (some .int) [] hF d 0 0 52 [(1, .ref t2), (3, .int o3)] [] S I J Q) → Wp RX7 cX7_wideEnough 5 (some .int) [] hF d 0 0 5 [(0, .ref 173), (1, .ref t2), (2, .int k2), (3, .int v3), (4, .int v4)] [] S I J Q := by
  intro n
  induction n with
  | zero => intro v3 v4 res h; exact nso h
  | succ n ih =>
    intro v3 v4 res h kx
    rw [mX7_wideEnough_5] at h
    refine wp_iload dX7_wideEnough_5 rfl ?_
    refine wp_aload_n dX7_wideEnough_7 rfl rfl ?_
    refine wp_getR dX7_wideEnough_8 flX7_32 rfl hL2.1.1 hL2.1.2.1 hL2.1.2.2.1 ?_
    refine wp_getI dX7_wideEnough_11 flX7_38 rfl (sk2 hS) (sn2 hS) ?_
    refine wp_icmp_ge (tgt := 52) dX7_wideEnough_14 (by decide) (fun hc1 => ?_) (fun hc1 => ?_)
    · have h := ite_t hc1 h
      exact wp_pick (ks := [1, 3]) rfl (kx _ (sji h).symm)
    · have h := ite_f hc1 h
      refine wp_aload_n dX7_wideEnough_17 rfl rfl ?_
      refine wp_iconst (v := (-1)) dX7_wideEnough_18 (by decide) ?_
      refine wp_iload dX7_wideEnough_19 rfl ?_
      refine wp_aload_n dX7_wideEnough_21 rfl rfl ?_
      refine wp_getR dX7_wideEnough_22 flX7_21 rfl (sk173 hS) (sn173 hS) (sr173_3 hS) ?_
      refine wp_iload_n dX7_wideEnough_25 rfl rfl ?_
      obtain ⟨hb2, h⟩ := ck_inv h
      refine wp_iald dX7_wideEnough_26 (sk177 hS) (sn177 hS) hb2 ?_
      obtain ⟨r3, hF4, h⟩ := obi h
      refine wp_callVNi (ci := 2) (As := [.int (-1), .int v4, .int (I 177 k2.toNatClampNeg)]) dX7_wideEnough_27 lbX2_poolWithout mnX7_43 imX2_poolWithout seX2_poolWithout vc2 (ct_X2_poolWithout N 0 (Nat.le_refl _) hS hL2 hF4) rfl rfl (Nat.le_trans (by decide) hd) hL2.1.1 hL2.1.2.1 (Nat.le_of_ble_eq_true rfl) (fun _ => ?_)
      refine wp_aload_n dX7_wideEnough_30 rfl rfl ?_
      refine wp_getR dX7_wideEnough_31 flX7_18 rfl (sk173 hS) (sn173 hS) (sr173_2 hS) ?_
      refine wp_iload_n dX7_wideEnough_34 rfl rfl ?_
      refine wp_iald dX7_wideEnough_35 (sk176 hS) (sn176 hS) hb2 ?_
      refine wp_icmp_lt (tgt := 46) dX7_wideEnough_36 (by decide) (fun hc5 => ?_) (fun hc5 => ?_)
      · have h := ite_t hc5 h
        refine wp_iinc (v := 1) (ls' := [(4, .int (v4 + 1)), (0, .ref 173), (1, .ref t2), (2, .int k2), (3, .int v3)]) dX7_wideEnough_46 rfl (by decide) (Nat.le_of_ble_eq_true rfl) rfl ?_
        refine wp_goto (tgt := 5) dX7_wideEnough_49 (by decide) ?_
        exact wp_pick (ks := [1, 2, 3, 4, 0]) rfl (ih _ _ _ h kx)
      · have h := ite_f hc5 h
        refine wp_iload_n dX7_wideEnough_39 rfl rfl ?_
        refine wp_iconst (v := 1) dX7_wideEnough_40 (by decide) ?_
        refine wp_iload dX7_wideEnough_41 rfl ?_
        refine wp_ishl dX7_wideEnough_43 ?_
        refine wp_ior dX7_wideEnough_44 ?_
        refine wp_istore_n (ls' := [(3, .int (v3 ||| ((1 : Int32) <<< (v4 &&& 31)))), (0, .ref 173), (1, .ref t2), (2, .int k2), (4, .int v4)]) dX7_wideEnough_45 rfl (Nat.le_of_ble_eq_true rfl) rfl ?_
        refine wp_iinc (v := 1) (ls' := [(4, .int (v4 + 1)), (3, .int (v3 ||| ((1 : Int32) <<< (v4 &&& 31)))), (0, .ref 173), (1, .ref t2), (2, .int k2)]) dX7_wideEnough_46 rfl (by decide) (Nat.le_of_ble_eq_true rfl) rfl ?_
        refine wp_goto (tgt := 5) dX7_wideEnough_49 (by decide) ?_
        exact wp_pick (ks := [2, 3, 4, 1, 0]) rfl (ih _ _ _ h kx)
set_option maxHeartbeats 4000000 in
set_option maxRecDepth 100000 in
theorem ct_X7_wideEnough (N : Nat) (d : Nat) (hd : 1 ≤ d) {S : gS} {J : gJ} (hS : Sh S) {t2 : Nat} {u2 : Nat} (hL2 : IsLe S t2 u2) {a3 : Int32} {I : gI} {r : Int32} (h : mX7_wideEnough N u2 a3 I = some r) : Ct yX7_wideEnough (wsY yX7_wideEnough cX7_wideEnough 5 (some .int)) d 0 0 [.ref 173, .ref t2, .int a3] S I J (qE (.inl (some (.int r))) S I J) := by
  refine Ct.of hF (fun _ _ _ _ _ => trivial) (by decide +kernel) (Nat.le_of_ble_eq_true rfl) ⟨Or.inl (sn173 hS), Or.inl hL2.1.2.1, trivial, trivial⟩ ?_
  show Wp RX7 cX7_wideEnough 5 (some .int) [] hF d 0 0 0 [(0, .ref 173), (1, .ref t2), (2, .int a3)] [] S I J _
  unfold mX7_wideEnough at h
  refine wp_iconst (v := 0) dX7_wideEnough_0 (by decide) ?_
  refine wp_istore_n (ls' := [(3, .int 0), (0, .ref 173), (1, .ref t2), (2, .int a3)]) dX7_wideEnough_1 rfl (Nat.le_of_ble_eq_true rfl) rfl ?_
  refine wp_iconst (v := 0) dX7_wideEnough_2 (by decide) ?_
  refine wp_istore (ls' := [(4, .int 0), (3, .int 0), (0, .ref 173), (1, .ref t2), (2, .int a3)]) dX7_wideEnough_3 (Nat.le_of_ble_eq_true rfl) rfl ?_
  obtain ⟨y6, hL97, h⟩ := obi h
  refine wp_pick (ks := [2, 3, 4, 1, 0]) rfl (wX7_wideEnough_5 N d hd hS t2 u2 hL2 a3 I N 0 0 _ hL97 (fun _ e8 => ?_))
  cases e8
  refine wp_iload_n dX7_wideEnough_52 rfl rfl ?_
  refine wp_aload_n dX7_wideEnough_53 rfl rfl ?_
  refine wp_getR dX7_wideEnough_54 flX7_47 rfl hL2.1.1 hL2.1.2.1 hL2.1.2.2.2.2 ?_
  refine wp_getI dX7_wideEnough_57 flX7_51 rfl hL2.2.1 hL2.2.n0 ?_
  refine wp_iand dX7_wideEnough_60 ?_
  exact wp_iret dX7_wideEnough_61 rfl (by obtain rfl := sji h; exact ⟨rfl, rfl, rfl, rfl⟩)
def mX7_isSo_2 (N : Nat) (u2 : Nat) (I : gI) : Nat → Int32 → Option ((Unit) ⊕ (Int32))
  | 0, _ => none
  | n + 1, v3 => if (I 173 5) ≤ v3 then (some (.inl ())) else (Option.bind (mX7_wideEnough N u2 v3 I) (fun r2 => ck v3 8 (Option.bind (mX6_reaches N r2 (I 174 v3.toNatClampNeg) (I 175 v3.toNatClampNeg) 7 I) (fun r5 => if r5 = (I 178 v3.toNatClampNeg) then (mX7_isSo_2 N u2 I n (v3 + 1)) else (some (.inr 0))))))
def mX7_isSo (N : Nat) (u2 : Nat) (I : gI) : Option (Int32) := lbind (mX7_isSo_2 N u2 I N 0) (fun _ => some 1) (fun r10 => some r10)
set_option maxHeartbeats 4000000 in
set_option maxRecDepth 100000 in
theorem wX7_isSo_2 (N : Nat) (d : Nat) (hd : 2 ≤ d) {S : gS} {J : gJ} (hS : Sh S) (t2 : Nat) (u2 : Nat) (hL2 : IsLe S t2 u2) (I : gI) {Q : gO → gS → gI → gJ → Prop} :
    ∀ (n : Nat) (v3 : Int32) (res : (Unit) ⊕ (Int32)), mX7_isSo_2 N u2 I n v3 = some res → (res = Sum.inl () → Wp RX7 cX7_isSo 4 (some .boolean) [] hF d 0 0 51 [] [] S I J Q) → (∀ (r : Int32), res = Sum.inr r → Q (.inl (some (.int r))) S I J) → Wp RX7 cX7_isSo 4 (some .boolean) [] hF d 0 0 2 [(0, .ref 173), (1, .ref t2), (2, .ref 30), (3, .int v3)] [] S I J Q := by
  intro n
  induction n with
  | zero => intro v3 res h; exact nso h
  | succ n ih =>
    intro v3 res h kx kr
    rw [mX7_isSo_2] at h
    refine wp_iload_n dX7_isSo_2 rfl rfl ?_
    refine wp_aload_n dX7_isSo_3 rfl rfl ?_
    refine wp_getI dX7_isSo_4 flX7_28 rfl (sk173 hS) (sn173 hS) ?_
    refine wp_icmp_ge (tgt := 51) dX7_isSo_7 (by decide) (fun hc1 => ?_) (fun hc1 => ?_)
    · have h := ite_t hc1 h
      exact wp_pick (ks := []) rfl (kx (sji h).symm)
    · have h := ite_f hc1 h
      refine wp_aload_n dX7_isSo_10 rfl rfl ?_
      refine wp_aload_n dX7_isSo_11 rfl rfl ?_
      refine wp_aload_n dX7_isSo_12 rfl rfl ?_
      refine wp_iload_n dX7_isSo_13 rfl rfl ?_
      obtain ⟨r2, hF3, h⟩ := obi h
      refine wp_callVi (ci := 7) (As := [.ref t2, .int v3]) dX7_isSo_14 lbX7_wideEnough mlX7_56 imX7_wideEnough seX7_wideEnough vc7 (ct_X7_wideEnough N 1 (Nat.le_refl _) hS hL2 hF3) rfl rfl (Nat.le_trans (by decide) hd) (sk173 hS) (sn173 hS) (Nat.le_of_ble_eq_true rfl) (fun _ => ?_)
      refine wp_aload_n dX7_isSo_17 rfl rfl ?_
      refine wp_getR dX7_isSo_18 flX7_9 rfl (sk173 hS) (sn173 hS) (sr173_0 hS) ?_
      refine wp_iload_n dX7_isSo_21 rfl rfl ?_
      obtain ⟨hb4, h⟩ := ck_inv h
      refine wp_iald dX7_isSo_22 (sk174 hS) (sn174 hS) hb4 ?_
      refine wp_aload_n dX7_isSo_23 rfl rfl ?_
      refine wp_getR dX7_isSo_24 flX7_15 rfl (sk173 hS) (sn173 hS) (sr173_1 hS) ?_
      refine wp_iload_n dX7_isSo_27 rfl rfl ?_
      refine wp_iald dX7_isSo_28 (sk175 hS) (sn175 hS) hb4 ?_
      refine wp_bipush (v := 7) dX7_isSo_29 (by decide) ?_
      obtain ⟨r5, hF6, h⟩ := obi h
      refine wp_callVNi (ci := 6) (As := [.int r2, .int (I 174 v3.toNatClampNeg), .int (I 175 v3.toNatClampNeg), .int 7]) dX7_isSo_31 lbX6_reaches mnX7_60 imX6_reaches seX6_reaches vc6 (ct_X6_reaches N 0 (Nat.le_refl _) hS  hF6) rfl rfl (Nat.le_trans (by decide) hd) (sk30 hS) (sn30 hS) (Nat.le_of_ble_eq_true rfl) (fun _ => ?_)
      refine wp_aload_n dX7_isSo_34 rfl rfl ?_
      refine wp_getR dX7_isSo_35 flX7_24 rfl (sk173 hS) (sn173 hS) (sr173_4 hS) ?_
      refine wp_iload_n dX7_isSo_38 rfl rfl ?_
      refine wp_zald dX7_isSo_39 (sk178 hS) (sn178 hS) hb4 ?_
      refine wp_icmp_eq (tgt := 45) dX7_isSo_40 (by decide) (fun hc7 => ?_) (fun hc7 => ?_)
      · have h := ite_t hc7 h
        refine wp_iinc (v := 1) (ls' := [(3, .int (v3 + 1)), (0, .ref 173), (1, .ref t2), (2, .ref 30)]) dX7_isSo_45 rfl (by decide) (Nat.le_of_ble_eq_true rfl) rfl ?_
        refine wp_goto (tgt := 2) dX7_isSo_48 (by decide) ?_
        exact wp_pick (ks := [1, 2, 3, 0]) rfl (ih _ _ h kx kr)
      · have h := ite_f hc7 h
        refine wp_iconst (v := 0) dX7_isSo_43 (by decide) ?_
        exact wp_zret dX7_isSo_44 rfl (by decide) (kr _ (sji h).symm)
set_option maxHeartbeats 4000000 in
set_option maxRecDepth 100000 in
theorem ct_X7_isSo (N : Nat) (d : Nat) (hd : 2 ≤ d) {S : gS} {J : gJ} (hS : Sh S) {t2 : Nat} {u2 : Nat} (hL2 : IsLe S t2 u2) {I : gI} {r : Int32} (h : mX7_isSo N u2 I = some r) : Ct yX7_isSo (wsY yX7_isSo cX7_isSo 4 (some .boolean)) d 0 0 [.ref 173, .ref t2, .ref 30] S I J (qE (.inl (some (.int r))) S I J) := by
  refine Ct.of hF (fun _ _ _ _ _ => trivial) (by decide +kernel) (Nat.le_of_ble_eq_true rfl) ⟨Or.inl (sn173 hS), Or.inl hL2.1.2.1, Or.inl (sn30 hS), trivial⟩ ?_
  show Wp RX7 cX7_isSo 4 (some .boolean) [] hF d 0 0 0 [(0, .ref 173), (1, .ref t2), (2, .ref 30)] [] S I J _
  unfold mX7_isSo at h
  refine wp_iconst (v := 0) dX7_isSo_0 (by decide) ?_
  refine wp_istore_n (ls' := [(3, .int 0), (0, .ref 173), (1, .ref t2), (2, .ref 30)]) dX7_isSo_1 rfl (Nat.le_of_ble_eq_true rfl) rfl ?_
  rcases lbi h with ⟨⟨⟩, hL98, h⟩ | ⟨r10, hL98, h⟩
  · refine wp_pick (ks := [1, 2, 3, 0]) rfl (wX7_isSo_2 N d hd hS t2 u2 hL2 I N 0 _ hL98 (fun  e9 => ?_) (fun _ e9 => by cases e9))
    cases e9
    refine wp_iconst (v := 1) dX7_isSo_51 (by decide) ?_
    exact wp_zret dX7_isSo_52 rfl (by decide) (by obtain rfl := sji h; exact ⟨rfl, rfl, rfl, rfl⟩)
  · refine wp_pick (ks := [1, 2, 3, 0]) rfl (wX7_isSo_2 N d hd hS t2 u2 hL2 I N 0 _ hL98 (fun  e9 => by cases e9) (fun _ e9 => ?_))
    cases e9
    exact (by obtain rfl := sji h; exact ⟨rfl, rfl, rfl, rfl⟩)
def mX7_bound_19 (N : Nat) (u2 : Nat) (k3 : Int32) (k4 : Int32) : Nat → Int32 → gI → Option (gI)
  | 0, _, _ => none
  | n + 1, v5, I => if (I 173 5) ≤ v5 then (some I) else (Option.bind (mX7_wideEnough N u2 v5 I) (fun r2 => ck v5 8 (Option.bind (mX6_reaches N (r2 &&& (k4 ^^^ (-1))) (I 174 v5.toNatClampNeg) (I 175 v5.toNatClampNeg) 7 I) (fun r5 => Option.bind (mX6_reaches N (r2 ||| (k4 &&& (I u2 2))) (I 174 v5.toNatClampNeg) (I 175 v5.toNatClampNeg) 7 I) (fun r7 => ck k3 16 (Option.bind (mX2_poolWithout N u2 (-1) k3 (I 177 v5.toNatClampNeg) I) (fun r10 => nm (((I 6 k3.toNatClampNeg) - r10) + (I 176 v5.toNatClampNeg)) (fun x12 => if r5 = r7 then (if r5 = (I 178 v5.toNatClampNeg) then (mX7_bound_19 N u2 k3 k4 n (v5 + 1) (upd2 I 173 7 (I 173 7))) else (mX7_bound_19 N u2 k3 k4 n (v5 + 1) (upd2 I 173 7 (-1)))) else (if (I 178 v5.toNatClampNeg) = 0 then (mX7_bound_19 N u2 k3 k4 n (v5 + 1) (upd2 I 173 7 (if (x12 - 1) < (I 173 7) then (x12 - 1) else (I 173 7)))) else (mX7_bound_19 N u2 k3 k4 n (v5 + 1) (upd2 I 173 6 (if (I 173 6) < x12 then x12 else (I 173 6)))))))))))))
def mX7_bound (N : Nat) (u2 : Nat) (a4 : Int32) (I : gI) : Option (gI) := Option.bind (mX7_bound_19 N u2 a4 ((1 : Int32) <<< (a4 &&& 31)) N 0 (upd2 (upd2 I 173 6 0) 173 7 1000000)) (fun I17 => some I17)
set_option maxHeartbeats 4000000 in
set_option maxRecDepth 100000 in
theorem wX7_bound_19 (N : Nat) (d : Nat) (hd : 2 ≤ d) {S : gS} {J : gJ} (hS : Sh S) (t2 : Nat) (u2 : Nat) (hL2 : IsLe S t2 u2) (k3 : Int32) (k4 : Int32) {Q : gO → gS → gI → gJ → Prop} :
    ∀ (n : Nat) (v5 : Int32) (I : gI) (res : gI), mX7_bound_19 N u2 k3 k4 n v5 I = some res → (∀ (O : gI), res = O → Wp RX7 cX7_bound 10 none [] hF d 0 0 215 [] [] S O J Q) → Wp RX7 cX7_bound 10 none [] hF d 0 0 19 [(0, .ref 173), (1, .ref t2), (2, .ref 30), (3, .int k3), (4, .int k4), (5, .int v5)] [] S I J Q := by
  intro n
  induction n with
  | zero => intro v5 I res h; exact nso h
  | succ n ih =>
    intro v5 I res h kx
    rw [mX7_bound_19] at h
    refine wp_iload dX7_bound_19 rfl ?_
    refine wp_aload_n dX7_bound_21 rfl rfl ?_
    refine wp_getI dX7_bound_22 flX7_28 rfl (sk173 hS) (sn173 hS) ?_
    refine wp_icmp_ge (tgt := 215) dX7_bound_25 (by decide) (fun hc1 => ?_) (fun hc1 => ?_)
    · have h := ite_t hc1 h
      exact wp_pick (ks := []) rfl (kx _ (sji h).symm)
    · have h := ite_f hc1 h
      refine wp_aload_n dX7_bound_28 rfl rfl ?_
      refine wp_aload_n dX7_bound_29 rfl rfl ?_
      refine wp_iload dX7_bound_30 rfl ?_
      obtain ⟨r2, hF3, h⟩ := obi h
      refine wp_callVi (ci := 7) (As := [.ref t2, .int v5]) dX7_bound_32 lbX7_wideEnough mlX7_56 imX7_wideEnough seX7_wideEnough vc7 (ct_X7_wideEnough N 1 (Nat.le_refl _) hS hL2 hF3) rfl rfl (Nat.le_trans (by decide) hd) (sk173 hS) (sn173 hS) (Nat.le_of_ble_eq_true rfl) (fun _ => ?_)
      refine wp_istore (ls' := [(6, .int r2), (0, .ref 173), (1, .ref t2), (2, .ref 30), (3, .int k3), (4, .int k4), (5, .int v5)]) dX7_bound_35 (Nat.le_of_ble_eq_true rfl) rfl ?_
      refine wp_aload_n dX7_bound_37 rfl rfl ?_
      refine wp_iload dX7_bound_38 rfl ?_
      refine wp_iload dX7_bound_40 rfl ?_
      refine wp_iconst (v := (-1)) dX7_bound_42 (by decide) ?_
      refine wp_ixor dX7_bound_43 ?_
      refine wp_iand dX7_bound_44 ?_
      refine wp_aload_n dX7_bound_45 rfl rfl ?_
      refine wp_getR dX7_bound_46 flX7_9 rfl (sk173 hS) (sn173 hS) (sr173_0 hS) ?_
      refine wp_iload dX7_bound_49 rfl ?_
      obtain ⟨hb4, h⟩ := ck_inv h
      refine wp_iald dX7_bound_51 (sk174 hS) (sn174 hS) hb4 ?_
      refine wp_aload_n dX7_bound_52 rfl rfl ?_
      refine wp_getR dX7_bound_53 flX7_15 rfl (sk173 hS) (sn173 hS) (sr173_1 hS) ?_
      refine wp_iload dX7_bound_56 rfl ?_
      refine wp_iald dX7_bound_58 (sk175 hS) (sn175 hS) hb4 ?_
      refine wp_bipush (v := 7) dX7_bound_59 (by decide) ?_
      obtain ⟨r5, hF6, h⟩ := obi h
      refine wp_callVNi (ci := 6) (As := [.int (r2 &&& (k4 ^^^ (-1))), .int (I 174 v5.toNatClampNeg), .int (I 175 v5.toNatClampNeg), .int 7]) dX7_bound_61 lbX6_reaches mnX7_60 imX6_reaches seX6_reaches vc6 (ct_X6_reaches N 0 (Nat.le_refl _) hS  hF6) rfl rfl (Nat.le_trans (by decide) hd) (sk30 hS) (sn30 hS) (Nat.le_of_ble_eq_true rfl) (fun _ => ?_)
      refine wp_istore (ls' := [(7, .int r5), (6, .int r2), (0, .ref 173), (1, .ref t2), (2, .ref 30), (3, .int k3), (4, .int k4), (5, .int v5)]) dX7_bound_64 (Nat.le_of_ble_eq_true rfl) rfl ?_
      refine wp_aload_n dX7_bound_66 rfl rfl ?_
      refine wp_iload dX7_bound_67 rfl ?_
      refine wp_iload dX7_bound_69 rfl ?_
      refine wp_aload_n dX7_bound_71 rfl rfl ?_
      refine wp_getR dX7_bound_72 flX7_47 rfl hL2.1.1 hL2.1.2.1 hL2.1.2.2.2.2 ?_
      refine wp_getI dX7_bound_75 flX7_51 rfl hL2.2.1 hL2.2.n0 ?_
      refine wp_iand dX7_bound_78 ?_
      refine wp_ior dX7_bound_79 ?_
      refine wp_aload_n dX7_bound_80 rfl rfl ?_
      refine wp_getR dX7_bound_81 flX7_9 rfl (sk173 hS) (sn173 hS) (sr173_0 hS) ?_
      refine wp_iload dX7_bound_84 rfl ?_
      refine wp_iald dX7_bound_86 (sk174 hS) (sn174 hS) hb4 ?_
      refine wp_aload_n dX7_bound_87 rfl rfl ?_
      refine wp_getR dX7_bound_88 flX7_15 rfl (sk173 hS) (sn173 hS) (sr173_1 hS) ?_
      refine wp_iload dX7_bound_91 rfl ?_
      refine wp_iald dX7_bound_93 (sk175 hS) (sn175 hS) hb4 ?_
      refine wp_bipush (v := 7) dX7_bound_94 (by decide) ?_
      obtain ⟨r7, hF8, h⟩ := obi h
      refine wp_callVNi (ci := 6) (As := [.int (r2 ||| (k4 &&& (I u2 2))), .int (I 174 v5.toNatClampNeg), .int (I 175 v5.toNatClampNeg), .int 7]) dX7_bound_96 lbX6_reaches mnX7_60 imX6_reaches seX6_reaches vc6 (ct_X6_reaches N 0 (Nat.le_refl _) hS  hF8) rfl rfl (Nat.le_trans (by decide) hd) (sk30 hS) (sn30 hS) (Nat.le_of_ble_eq_true rfl) (fun _ => ?_)
      refine wp_istore (ls' := [(8, .int r7), (7, .int r5), (6, .int r2), (0, .ref 173), (1, .ref t2), (2, .ref 30), (3, .int k3), (4, .int k4), (5, .int v5)]) dX7_bound_99 (Nat.le_of_ble_eq_true rfl) rfl ?_
      refine wp_aload_n dX7_bound_101 rfl rfl ?_
      refine wp_getR dX7_bound_102 flX7_32 rfl hL2.1.1 hL2.1.2.1 hL2.1.2.2.1 ?_
      refine wp_getR dX7_bound_105 flX7_73 rfl (sk2 hS) (sn2 hS) (sr2_6 hS) ?_
      refine wp_iload_n dX7_bound_108 rfl rfl ?_
      obtain ⟨hb9, h⟩ := ck_inv h
      refine wp_iald dX7_bound_109 (sk6 hS) (sn6 hS) hb9 ?_
      refine wp_aload_n dX7_bound_110 rfl rfl ?_
      refine wp_iconst (v := (-1)) dX7_bound_111 (by decide) ?_
      refine wp_iload_n dX7_bound_112 rfl rfl ?_
      refine wp_aload_n dX7_bound_113 rfl rfl ?_
      refine wp_getR dX7_bound_114 flX7_21 rfl (sk173 hS) (sn173 hS) (sr173_3 hS) ?_
      refine wp_iload dX7_bound_117 rfl ?_
      refine wp_iald dX7_bound_119 (sk177 hS) (sn177 hS) hb4 ?_
      obtain ⟨r10, hF11, h⟩ := obi h
      refine wp_callVNi (ci := 2) (As := [.int (-1), .int k3, .int (I 177 v5.toNatClampNeg)]) dX7_bound_120 lbX2_poolWithout mnX7_43 imX2_poolWithout seX2_poolWithout vc2 (ct_X2_poolWithout N 0 (Nat.le_refl _) hS hL2 hF11) rfl rfl (Nat.le_trans (by decide) hd) hL2.1.1 hL2.1.2.1 (Nat.le_of_ble_eq_true rfl) (fun _ => ?_)
      refine wp_isub dX7_bound_123 ?_
      refine wp_aload_n dX7_bound_124 rfl rfl ?_
      refine wp_getR dX7_bound_125 flX7_18 rfl (sk173 hS) (sn173 hS) (sr173_2 hS) ?_
      refine wp_iload dX7_bound_128 rfl ?_
      refine wp_iald dX7_bound_130 (sk176 hS) (sn176 hS) hb4 ?_
      refine wp_iadd dX7_bound_131 ?_
      obtain ⟨x12, hx13, h⟩ := nm_inv h
      refine wp_topi hx13 ?_
      refine wp_istore (ls' := [(9, .int x12), (8, .int r7), (7, .int r5), (6, .int r2), (0, .ref 173), (1, .ref t2), (2, .ref 30), (3, .int k3), (4, .int k4), (5, .int v5)]) dX7_bound_132 (Nat.le_of_ble_eq_true rfl) rfl ?_
      refine wp_iload dX7_bound_134 rfl ?_
      refine wp_iload dX7_bound_136 rfl ?_
      refine wp_icmp_ne (tgt := 168) dX7_bound_138 (by decide) (fun hc14 => ?_) (fun hc14 => ?_)
      · have h := ite_f hc14 h
        refine wp_aload_n dX7_bound_168 rfl rfl ?_
        refine wp_getR dX7_bound_169 flX7_24 rfl (sk173 hS) (sn173 hS) (sr173_4 hS) ?_
        refine wp_iload dX7_bound_172 rfl ?_
        refine wp_zald dX7_bound_174 (sk178 hS) (sn178 hS) hb4 ?_
        refine wp_if_eq (tgt := 194) dX7_bound_175 (by decide) (fun hc15 => ?_) (fun hc15 => ?_)
        · have h := ite_t hc15 h
          refine wp_aload_n dX7_bound_194 rfl rfl ?_
          refine wp_aload_n dX7_bound_195 rfl rfl ?_
          refine wp_getI dX7_bound_196 flX7_70 rfl (sk173 hS) (sn173 hS) ?_
          refine wp_iload dX7_bound_199 rfl ?_
          refine wp_iconst (v := 1) dX7_bound_201 (by decide) ?_
          refine wp_isub dX7_bound_202 ?_
          refine wp_min dX7_bound_203 mlX7_82 ma_min1 ma_2 ma_min3 (Nat.le_trans (by decide) hd) (Nat.le_of_ble_eq_true rfl) ?_
          refine wp_putI dX7_bound_206 (Or.inl fpX7_70) rfl ⟨rfl, rfl⟩ (sk173 hS) (sn173 hS) ?_
          refine wp_iinc (v := 1) (ls' := [(5, .int (v5 + 1)), (9, .int x12), (8, .int r7), (7, .int r5), (6, .int r2), (0, .ref 173), (1, .ref t2), (2, .ref 30), (3, .int k3), (4, .int k4)]) dX7_bound_209 rfl (by decide) (Nat.le_of_ble_eq_true rfl) rfl ?_
          refine wp_goto (tgt := 19) dX7_bound_212 (by decide) ?_
          exact wp_pick (ks := [5, 6, 7, 8, 9, 0]) rfl (ih _ _ _ h kx)
        · have h := ite_f hc15 h
          refine wp_aload_n dX7_bound_178 rfl rfl ?_
          refine wp_aload_n dX7_bound_179 rfl rfl ?_
          refine wp_getI dX7_bound_180 flX7_66 rfl (sk173 hS) (sn173 hS) ?_
          refine wp_iload dX7_bound_183 rfl ?_
          refine wp_max dX7_bound_185 mlX7_76 ma_max1 ma_2 ma_max3 (Nat.le_trans (by decide) hd) (Nat.le_of_ble_eq_true rfl) ?_
          refine wp_putI dX7_bound_188 (Or.inl fpX7_66) rfl ⟨rfl, rfl⟩ (sk173 hS) (sn173 hS) ?_
          refine wp_goto (tgt := 209) dX7_bound_191 (by decide) ?_
          refine wp_iinc (v := 1) (ls' := [(5, .int (v5 + 1)), (9, .int x12), (8, .int r7), (7, .int r5), (6, .int r2), (0, .ref 173), (1, .ref t2), (2, .ref 30), (3, .int k3), (4, .int k4)]) dX7_bound_209 rfl (by decide) (Nat.le_of_ble_eq_true rfl) rfl ?_
          refine wp_goto (tgt := 19) dX7_bound_212 (by decide) ?_
          exact wp_pick (ks := [5, 6, 7, 8, 9, 0]) rfl (ih _ _ _ h kx)
      · have h := ite_t hc14 h
        refine wp_aload_n dX7_bound_141 rfl rfl ?_
        refine wp_iload dX7_bound_142 rfl ?_
        refine wp_aload_n dX7_bound_144 rfl rfl ?_
        refine wp_getR dX7_bound_145 flX7_24 rfl (sk173 hS) (sn173 hS) (sr173_4 hS) ?_
        refine wp_iload dX7_bound_148 rfl ?_
        refine wp_zald dX7_bound_150 (sk178 hS) (sn178 hS) hb4 ?_
        refine wp_icmp_ne (tgt := 161) dX7_bound_151 (by decide) (fun hc16 => ?_) (fun hc16 => ?_)
        · have h := ite_f hc16 h
          refine wp_iconst (v := (-1)) dX7_bound_161 (by decide) ?_
          refine wp_putI dX7_bound_162 (Or.inl fpX7_70) rfl ⟨rfl, rfl⟩ (sk173 hS) (sn173 hS) ?_
          refine wp_goto (tgt := 209) dX7_bound_165 (by decide) ?_
          refine wp_iinc (v := 1) (ls' := [(5, .int (v5 + 1)), (9, .int x12), (8, .int r7), (7, .int r5), (6, .int r2), (0, .ref 173), (1, .ref t2), (2, .ref 30), (3, .int k3), (4, .int k4)]) dX7_bound_209 rfl (by decide) (Nat.le_of_ble_eq_true rfl) rfl ?_
          refine wp_goto (tgt := 19) dX7_bound_212 (by decide) ?_
          exact wp_pick (ks := [5, 6, 7, 8, 9, 0]) rfl (ih _ _ _ h kx)
        · have h := ite_t hc16 h
          refine wp_aload_n dX7_bound_154 rfl rfl ?_
          refine wp_getI dX7_bound_155 flX7_70 rfl (sk173 hS) (sn173 hS) ?_
          refine wp_goto (tgt := 162) dX7_bound_158 (by decide) ?_
          refine wp_putI dX7_bound_162 (Or.inl fpX7_70) rfl ⟨rfl, rfl⟩ (sk173 hS) (sn173 hS) ?_
          refine wp_goto (tgt := 209) dX7_bound_165 (by decide) ?_
          refine wp_iinc (v := 1) (ls' := [(5, .int (v5 + 1)), (9, .int x12), (8, .int r7), (7, .int r5), (6, .int r2), (0, .ref 173), (1, .ref t2), (2, .ref 30), (3, .int k3), (4, .int k4)]) dX7_bound_209 rfl (by decide) (Nat.le_of_ble_eq_true rfl) rfl ?_
          refine wp_goto (tgt := 19) dX7_bound_212 (by decide) ?_
          exact wp_pick (ks := [5, 6, 7, 8, 9, 0]) rfl (ih _ _ _ h kx)
set_option maxHeartbeats 4000000 in
set_option maxRecDepth 100000 in
theorem ct_X7_bound (N : Nat) (d : Nat) (hd : 2 ≤ d) {S : gS} {J : gJ} (hS : Sh S) {t2 : Nat} {u2 : Nat} (hL2 : IsLe S t2 u2) {a4 : Int32} {I : gI} {r : gI} (h : mX7_bound N u2 a4 I = some r) : Ct yX7_bound (wsY yX7_bound cX7_bound 10 none) d 0 0 [.ref 173, .ref t2, .ref 30, .int a4] S I J (qE (.inl none) S r J) := by
  refine Ct.of hF (fun _ _ _ _ _ => trivial) (by decide +kernel) (Nat.le_of_ble_eq_true rfl) ⟨Or.inl (sn173 hS), Or.inl hL2.1.2.1, Or.inl (sn30 hS), trivial, trivial⟩ ?_
  show Wp RX7 cX7_bound 10 none [] hF d 0 0 0 [(0, .ref 173), (1, .ref t2), (2, .ref 30), (3, .int a4)] [] S I J _
  unfold mX7_bound at h
  refine wp_aload_n dX7_bound_0 rfl rfl ?_
  refine wp_iconst (v := 0) dX7_bound_1 (by decide) ?_
  refine wp_putI dX7_bound_2 (Or.inl fpX7_66) rfl ⟨rfl, rfl⟩ (sk173 hS) (sn173 hS) ?_
  refine wp_aload_n dX7_bound_5 rfl rfl ?_
  refine wp_ldc dX7_bound_6 koX7_69 ?_
  refine wp_putI dX7_bound_8 (Or.inl fpX7_70) rfl ⟨rfl, rfl⟩ (sk173 hS) (sn173 hS) ?_
  refine wp_iconst (v := 1) dX7_bound_11 (by decide) ?_
  refine wp_iload_n dX7_bound_12 rfl rfl ?_
  refine wp_ishl dX7_bound_13 ?_
  refine wp_istore (ls' := [(4, .int ((1 : Int32) <<< (a4 &&& 31))), (0, .ref 173), (1, .ref t2), (2, .ref 30), (3, .int a4)]) dX7_bound_14 (Nat.le_of_ble_eq_true rfl) rfl ?_
  refine wp_iconst (v := 0) dX7_bound_16 (by decide) ?_
  refine wp_istore (ls' := [(5, .int 0), (4, .int ((1 : Int32) <<< (a4 &&& 31))), (0, .ref 173), (1, .ref t2), (2, .ref 30), (3, .int a4)]) dX7_bound_17 (Nat.le_of_ble_eq_true rfl) rfl ?_
  obtain ⟨I17, hL918, h⟩ := obi h
  refine wp_pick (ks := [2, 3, 4, 5, 1, 0]) rfl (wX7_bound_19 N d hd hS t2 u2 hL2 a4 ((1 : Int32) <<< (a4 &&& 31)) N 0 (upd2 (upd2 I 173 6 0) 173 7 1000000) _ hL918 (fun _ e19 => ?_))
  cases e19
  exact wp_vret dX7_bound_215 rfl (by obtain rfl := sji h; exact ⟨rfl, rfl, rfl, rfl⟩)
def mX3_plannedWay (a2 : Int32) (I : gI) : Option (Int32) := ck a2 9 (some (I 45 a2.toNatClampNeg))
set_option maxHeartbeats 4000000 in
set_option maxRecDepth 100000 in
theorem ct_X3_plannedWay (d : Nat) (hd : 0 ≤ d) {S : gS} {J : gJ} (hS : Sh S)  {a2 : Int32} {I : gI} {r : Int32} (h : mX3_plannedWay a2 I = some r) : Ct yX3_plannedWay (wsY yX3_plannedWay cX3_plannedWay 2 (some .int)) d 0 0 [.ref 43, .int a2] S I J (qE (.inl (some (.int r))) S I J) := by
  refine Ct.of hF (fun _ _ _ _ _ => trivial) (by decide +kernel) (Nat.le_of_ble_eq_true rfl) ⟨Or.inl (sn43 hS), trivial, trivial⟩ ?_
  show Wp RX3 cX3_plannedWay 2 (some .int) [] hF d 0 0 0 [(0, .ref 43), (1, .int a2)] [] S I J _
  unfold mX3_plannedWay at h
  refine wp_aload_n dX3_plannedWay_0 rfl rfl ?_
  refine wp_getR dX3_plannedWay_1 flX3_12 rfl (sk43 hS) (sn43 hS) (sr43_3 hS) ?_
  refine wp_getR dX3_plannedWay_4 flX3_48 rfl (sk44 hS) (sn44 hS) (sr44_0 hS) ?_
  refine wp_iload_n dX3_plannedWay_7 rfl rfl ?_
  obtain ⟨hb1, h⟩ := ck_inv h
  refine wp_iald dX3_plannedWay_8 (sk45 hS) (sn45 hS) hb1 ?_
  exact wp_iret dX3_plannedWay_9 rfl (by obtain rfl := sji h; exact ⟨rfl, rfl, rfl, rfl⟩)
def mX3_firstOf_8 (k1 : Int32) (I : gI) : Nat → Int32 → Int32 → Int32 → Option (Int32)
  | 0, _, _, _ => none
  | n + 1, v2, v3, v4 => if (I 2 2) ≤ v4 then (some v2) else (ck v4 9 (if ((ushr k1 v4) &&& 1) = 0 then (mX3_firstOf_8 k1 I n v2 v3 (v4 + 1)) else (if v3 ≤ (((I 11 v4.toNatClampNeg) * 8) + (I 12 v4.toNatClampNeg)) then (mX3_firstOf_8 k1 I n v2 v3 (v4 + 1)) else (mX3_firstOf_8 k1 I n v4 (((I 11 v4.toNatClampNeg) * 8) + (I 12 v4.toNatClampNeg)) (v4 + 1)))))
def mX3_firstOf (N : Nat) (a2 : Int32) (I : gI) : Option (Int32) := Option.bind (mX3_firstOf_8 a2 I N 0 1000000 0) (fun y5 => some y5)
set_option maxHeartbeats 4000000 in
set_option maxRecDepth 100000 in
theorem wX3_firstOf_8 (d : Nat) (hd : 0 ≤ d) {S : gS} {J : gJ} (hS : Sh S)  (k1 : Int32) (I : gI) {Q : gO → gS → gI → gJ → Prop} :
    ∀ (n : Nat) (v2 : Int32) (v3 : Int32) (v4 : Int32) (res : Int32), mX3_firstOf_8 k1 I n v2 v3 v4 = some res → (∀ (o2 : Int32), res = o2 → Wp RX3 cX3_firstOf 6 (some .int) [] hF d 0 0 73 [(2, .int o2)] [] S I J Q) → Wp RX3 cX3_firstOf 6 (some .int) [] hF d 0 0 8 [(0, .ref 43), (1, .int k1), (2, .int v2), (3, .int v3), (4, .int v4)] [] S I J Q := by
  intro n
  induction n with
  | zero => intro v2 v3 v4 res h; exact nso h
  | succ n ih =>
    intro v2 v3 v4 res h kx
    rw [mX3_firstOf_8] at h
    refine wp_iload dX3_firstOf_8 rfl ?_
    refine wp_aload_n dX3_firstOf_10 rfl rfl ?_
    refine wp_getR dX3_firstOf_11 flX3_28 rfl (sk43 hS) (sn43 hS) (sr43_0 hS) ?_
    refine wp_getI dX3_firstOf_14 flX3_59 rfl (sk2 hS) (sn2 hS) ?_
    refine wp_icmp_ge (tgt := 73) dX3_firstOf_17 (by decide) (fun hc1 => ?_) (fun hc1 => ?_)
    · have h := ite_t hc1 h
      exact wp_pick (ks := [2]) rfl (kx _ (sji h).symm)
    · have h := ite_f hc1 h
      refine wp_aload_n dX3_firstOf_20 rfl rfl ?_
      refine wp_getR dX3_firstOf_21 flX3_28 rfl (sk43 hS) (sn43 hS) (sr43_0 hS) ?_
      refine wp_getR dX3_firstOf_24 flX3_77 rfl (sk2 hS) (sn2 hS) (sr2_11 hS) ?_
      refine wp_iload dX3_firstOf_27 rfl ?_
      obtain ⟨hb2, h⟩ := ck_inv h
      refine wp_iald dX3_firstOf_29 (sk11 hS) (sn11 hS) hb2 ?_
      refine wp_bipush (v := 8) dX3_firstOf_30 (by decide) ?_
      refine wp_imul dX3_firstOf_32 ?_
      refine wp_aload_n dX3_firstOf_33 rfl rfl ?_
      refine wp_getR dX3_firstOf_34 flX3_28 rfl (sk43 hS) (sn43 hS) (sr43_0 hS) ?_
      refine wp_getR dX3_firstOf_37 flX3_80 rfl (sk2 hS) (sn2 hS) (sr2_12 hS) ?_
      refine wp_iload dX3_firstOf_40 rfl ?_
      refine wp_iald dX3_firstOf_42 (sk12 hS) (sn12 hS) hb2 ?_
      refine wp_iadd dX3_firstOf_43 ?_
      refine wp_istore (ls' := [(5, .int (((I 11 v4.toNatClampNeg) * 8) + (I 12 v4.toNatClampNeg))), (0, .ref 43), (1, .int k1), (2, .int v2), (3, .int v3), (4, .int v4)]) dX3_firstOf_44 (Nat.le_of_ble_eq_true rfl) rfl ?_
      refine wp_iload_n dX3_firstOf_46 rfl rfl ?_
      refine wp_iload dX3_firstOf_47 rfl ?_
      refine wp_iushr dX3_firstOf_49 ?_
      refine wp_iconst (v := 1) dX3_firstOf_50 (by decide) ?_
      refine wp_iand dX3_firstOf_51 ?_
      refine wp_if_eq (tgt := 67) dX3_firstOf_52 (by decide) (fun hc3 => ?_) (fun hc3 => ?_)
      · have h := ite_t hc3 h
        refine wp_iinc (v := 1) (ls' := [(4, .int (v4 + 1)), (5, .int (((I 11 v4.toNatClampNeg) * 8) + (I 12 v4.toNatClampNeg))), (0, .ref 43), (1, .int k1), (2, .int v2), (3, .int v3)]) dX3_firstOf_67 rfl (by decide) (Nat.le_of_ble_eq_true rfl) rfl ?_
        refine wp_goto (tgt := 8) dX3_firstOf_70 (by decide) ?_
        exact wp_pick (ks := [2, 3, 4, 5, 0]) rfl (ih _ _ _ _ h kx)
      · have h := ite_f hc3 h
        refine wp_iload dX3_firstOf_55 rfl ?_
        refine wp_iload_n dX3_firstOf_57 rfl rfl ?_
        refine wp_icmp_ge (tgt := 67) dX3_firstOf_58 (by decide) (fun hc4 => ?_) (fun hc4 => ?_)
        · have h := ite_t hc4 h
          refine wp_iinc (v := 1) (ls' := [(4, .int (v4 + 1)), (5, .int (((I 11 v4.toNatClampNeg) * 8) + (I 12 v4.toNatClampNeg))), (0, .ref 43), (1, .int k1), (2, .int v2), (3, .int v3)]) dX3_firstOf_67 rfl (by decide) (Nat.le_of_ble_eq_true rfl) rfl ?_
          refine wp_goto (tgt := 8) dX3_firstOf_70 (by decide) ?_
          exact wp_pick (ks := [2, 3, 4, 5, 0]) rfl (ih _ _ _ _ h kx)
        · have h := ite_f hc4 h
          refine wp_iload dX3_firstOf_61 rfl ?_
          refine wp_istore_n (ls' := [(3, .int (((I 11 v4.toNatClampNeg) * 8) + (I 12 v4.toNatClampNeg))), (5, .int (((I 11 v4.toNatClampNeg) * 8) + (I 12 v4.toNatClampNeg))), (0, .ref 43), (1, .int k1), (2, .int v2), (4, .int v4)]) dX3_firstOf_63 rfl (Nat.le_of_ble_eq_true rfl) rfl ?_
          refine wp_iload dX3_firstOf_64 rfl ?_
          refine wp_istore_n (ls' := [(2, .int v4), (3, .int (((I 11 v4.toNatClampNeg) * 8) + (I 12 v4.toNatClampNeg))), (5, .int (((I 11 v4.toNatClampNeg) * 8) + (I 12 v4.toNatClampNeg))), (0, .ref 43), (1, .int k1), (4, .int v4)]) dX3_firstOf_66 rfl (Nat.le_of_ble_eq_true rfl) rfl ?_
          refine wp_iinc (v := 1) (ls' := [(4, .int (v4 + 1)), (2, .int v4), (3, .int (((I 11 v4.toNatClampNeg) * 8) + (I 12 v4.toNatClampNeg))), (5, .int (((I 11 v4.toNatClampNeg) * 8) + (I 12 v4.toNatClampNeg))), (0, .ref 43), (1, .int k1)]) dX3_firstOf_67 rfl (by decide) (Nat.le_of_ble_eq_true rfl) rfl ?_
          refine wp_goto (tgt := 8) dX3_firstOf_70 (by decide) ?_
          exact wp_pick (ks := [4, 5, 1, 2, 0]) rfl (ih _ _ _ _ h kx)
set_option maxHeartbeats 4000000 in
set_option maxRecDepth 100000 in
theorem ct_X3_firstOf (N : Nat) (d : Nat) (hd : 0 ≤ d) {S : gS} {J : gJ} (hS : Sh S)  {a2 : Int32} {I : gI} {r : Int32} (h : mX3_firstOf N a2 I = some r) : Ct yX3_firstOf (wsY yX3_firstOf cX3_firstOf 6 (some .int)) d 0 0 [.ref 43, .int a2] S I J (qE (.inl (some (.int r))) S I J) := by
  refine Ct.of hF (fun _ _ _ _ _ => trivial) (by decide +kernel) (Nat.le_of_ble_eq_true rfl) ⟨Or.inl (sn43 hS), trivial, trivial⟩ ?_
  show Wp RX3 cX3_firstOf 6 (some .int) [] hF d 0 0 0 [(0, .ref 43), (1, .int a2)] [] S I J _
  unfold mX3_firstOf at h
  refine wp_iconst (v := 0) dX3_firstOf_0 (by decide) ?_
  refine wp_istore_n (ls' := [(2, .int 0), (0, .ref 43), (1, .int a2)]) dX3_firstOf_1 rfl (Nat.le_of_ble_eq_true rfl) rfl ?_
  refine wp_ldc dX3_firstOf_2 koX3_76 ?_
  refine wp_istore_n (ls' := [(3, .int 1000000), (2, .int 0), (0, .ref 43), (1, .int a2)]) dX3_firstOf_4 rfl (Nat.le_of_ble_eq_true rfl) rfl ?_
  refine wp_iconst (v := 0) dX3_firstOf_5 (by decide) ?_
  refine wp_istore (ls' := [(4, .int 0), (3, .int 1000000), (2, .int 0), (0, .ref 43), (1, .int a2)]) dX3_firstOf_6 (Nat.le_of_ble_eq_true rfl) rfl ?_
  obtain ⟨y5, hL96, h⟩ := obi h
  refine wp_pick (ks := [3, 4, 2, 1, 0]) rfl (wX3_firstOf_8 d hd hS  a2 I N 0 1000000 0 _ hL96 (fun _ e7 => ?_))
  cases e7
  refine wp_iload_n dX3_firstOf_73 rfl rfl ?_
  exact wp_iret dX3_firstOf_74 rfl (by obtain rfl := sji h; exact ⟨rfl, rfl, rfl, rfl⟩)
def mX3_makePlan_35 (N : Nat) : Nat → Int32 → Int32 → gI → Option (gI)
  | 0, _, _, _ => none
  | n + 1, v1, v2, I => if (I 2 2) ≤ v2 then (some I) else (Option.bind (mX3_firstOf N v1 I) (fun r6 => ck r6 9 (Option.bind (mX2_bestWay N 44 r6 (I 38 r6.toNatClampNeg) 7 I) (fun (r9, I10) => mX3_makePlan_35 N n (v1 &&& (((1 : Int32) <<< (r6 &&& 31)) ^^^ (-1))) (v2 + 1) (upd2 I10 45 r6.toNatClampNeg r9)))))
def mX3_makePlan (N : Nat) (I : gI) : Option (gI) := Option.bind (mX8_copyFrom N 44 36 I) (fun I1 => Option.bind (mX2_drop N 44 511 I1) (fun I3 => Option.bind (mX3_makePlan_35 N N (((1 : Int32) <<< ((I3 2 2) &&& 31)) - 1) 0 I3) (fun I12 => some I12)))
set_option maxHeartbeats 4000000 in
set_option maxRecDepth 100000 in
theorem wX3_makePlan_35 (N : Nat) (d : Nat) (hd : 4 ≤ d) {S : gS} {J : gJ} (hS : Sh S)  {Q : gO → gS → gI → gJ → Prop} :
    ∀ (n : Nat) (v1 : Int32) (v2 : Int32) (I : gI) (res : gI), mX3_makePlan_35 N n v1 v2 I = some res → (∀ (O : gI), res = O → Wp RX3 cX3_makePlan 4 none [] hF d 0 0 94 [] [] S O J Q) → Wp RX3 cX3_makePlan 4 none [] hF d 0 0 35 [(0, .ref 43), (1, .int v1), (2, .int v2)] [] S I J Q := by
  intro n
  induction n with
  | zero => intro v1 v2 I res h; exact nso h
  | succ n ih =>
    intro v1 v2 I res h kx
    rw [mX3_makePlan_35] at h
    refine wp_iload_n dX3_makePlan_35 rfl rfl ?_
    refine wp_aload_n dX3_makePlan_36 rfl rfl ?_
    refine wp_getR dX3_makePlan_37 flX3_28 rfl (sk43 hS) (sn43 hS) (sr43_0 hS) ?_
    refine wp_getI dX3_makePlan_40 flX3_59 rfl (sk2 hS) (sn2 hS) ?_
    refine wp_icmp_ge (tgt := 94) dX3_makePlan_43 (by decide) (fun hc5 => ?_) (fun hc5 => ?_)
    · have h := ite_t hc5 h
      exact wp_pick (ks := []) rfl (kx _ (sji h).symm)
    · have h := ite_f hc5 h
      refine wp_aload_n dX3_makePlan_46 rfl rfl ?_
      refine wp_iload_n dX3_makePlan_47 rfl rfl ?_
      obtain ⟨r6, hF7, h⟩ := obi h
      refine wp_callVi (ci := 3) (As := [.int v1]) dX3_makePlan_48 lbX3_firstOf mlX3_65 imX3_firstOf seX3_firstOf vc3 (ct_X3_firstOf N 0 (Nat.le_refl _) hS  hF7) rfl rfl (Nat.le_trans (by decide) hd) (sk43 hS) (sn43 hS) (Nat.le_of_ble_eq_true rfl) (fun _ => ?_)
      refine wp_istore_n (ls' := [(3, .int r6), (0, .ref 43), (1, .int v1), (2, .int v2)]) dX3_makePlan_51 rfl (Nat.le_of_ble_eq_true rfl) rfl ?_
      refine wp_iload_n dX3_makePlan_52 rfl rfl ?_
      refine wp_iconst (v := 1) dX3_makePlan_53 (by decide) ?_
      refine wp_iload_n dX3_makePlan_54 rfl rfl ?_
      refine wp_ishl dX3_makePlan_55 ?_
      refine wp_iconst (v := (-1)) dX3_makePlan_56 (by decide) ?_
      refine wp_ixor dX3_makePlan_57 ?_
      refine wp_iand dX3_makePlan_58 ?_
      refine wp_istore_n (ls' := [(1, .int (v1 &&& (((1 : Int32) <<< (r6 &&& 31)) ^^^ (-1)))), (3, .int r6), (0, .ref 43), (2, .int v2)]) dX3_makePlan_59 rfl (Nat.le_of_ble_eq_true rfl) rfl ?_
      refine wp_aload_n dX3_makePlan_60 rfl rfl ?_
      refine wp_getR dX3_makePlan_61 flX3_12 rfl (sk43 hS) (sn43 hS) (sr43_3 hS) ?_
      refine wp_getR dX3_makePlan_64 flX3_48 rfl (sk44 hS) (sn44 hS) (sr44_0 hS) ?_
      refine wp_iload_n dX3_makePlan_67 rfl rfl ?_
      refine wp_aload_n dX3_makePlan_68 rfl rfl ?_
      refine wp_getR dX3_makePlan_69 flX3_45 rfl (sk43 hS) (sn43 hS) (sr43_4 hS) ?_
      refine wp_iload_n dX3_makePlan_72 rfl rfl ?_
      refine wp_aload_n dX3_makePlan_73 rfl rfl ?_
      refine wp_getR dX3_makePlan_74 flX3_41 rfl (sk43 hS) (sn43 hS) (sr43_2 hS) ?_
      refine wp_getR dX3_makePlan_77 flX3_69 rfl (sk36 hS) (sn36 hS) (sr36_1 hS) ?_
      refine wp_iload_n dX3_makePlan_80 rfl rfl ?_
      obtain ⟨hb8, h⟩ := ck_inv h
      refine wp_iald dX3_makePlan_81 (sk38 hS) (sn38 hS) hb8 ?_
      refine wp_bipush (v := 7) dX3_makePlan_82 (by decide) ?_
      obtain ⟨⟨r9, I10⟩, hF11, h⟩ := obi h
      refine wp_callVNi (ci := 2) (As := [.int r6, .int (I 38 r6.toNatClampNeg), .int 7]) dX3_makePlan_84 lbX2_bestWay mnX3_72 imX2_bestWay seX2_bestWay vc2 (ct_X2_bestWay N 3 (Nat.le_refl _) hS (le50 hS) hF11) rfl rfl (Nat.le_trans (by decide) hd) (sk50 hS) (sn50 hS) (Nat.le_of_ble_eq_true rfl) (fun _ => ?_)
      refine wp_iast dX3_makePlan_87 (sk45 hS) (sn45 hS) hb8 ?_
      refine wp_iinc (v := 1) (ls' := [(2, .int (v2 + 1)), (1, .int (v1 &&& (((1 : Int32) <<< (r6 &&& 31)) ^^^ (-1)))), (3, .int r6), (0, .ref 43)]) dX3_makePlan_88 rfl (by decide) (Nat.le_of_ble_eq_true rfl) rfl ?_
      refine wp_goto (tgt := 35) dX3_makePlan_91 (by decide) ?_
      exact wp_pick (ks := [3, 1, 0]) rfl (ih _ _ _ _ h kx)
set_option maxHeartbeats 4000000 in
set_option maxRecDepth 100000 in
theorem ct_X3_makePlan (N : Nat) (d : Nat) (hd : 4 ≤ d) {S : gS} {J : gJ} (hS : Sh S)  {I : gI} {r : gI} (h : mX3_makePlan N I = some r) : Ct yX3_makePlan (wsY yX3_makePlan cX3_makePlan 4 none) d 0 0 [.ref 43] S I J (qE (.inl none) S r J) := by
  refine Ct.of hF (fun _ _ _ _ _ => trivial) (by decide +kernel) (Nat.le_of_ble_eq_true rfl) ⟨Or.inl (sn43 hS), trivial⟩ ?_
  show Wp RX3 cX3_makePlan 4 none [] hF d 0 0 0 [(0, .ref 43)] [] S I J _
  unfold mX3_makePlan at h
  refine wp_aload_n dX3_makePlan_0 rfl rfl ?_
  refine wp_getR dX3_makePlan_1 flX3_12 rfl (sk43 hS) (sn43 hS) (sr43_3 hS) ?_
  refine wp_aload_n dX3_makePlan_4 rfl rfl ?_
  refine wp_getR dX3_makePlan_5 flX3_41 rfl (sk43 hS) (sn43 hS) (sr43_2 hS) ?_
  obtain ⟨I1, hF2, h⟩ := obi h
  refine wp_callVNv (ci := 8) (As := [.ref 36]) dX3_makePlan_8 lbX8_copyFrom mnX3_51 imX8_copyFrom seX8_copyFrom vc8 (ct_X8_copyFrom N 0 (Nat.le_refl _) hS (st44 hS) (st36 hS) hF2) rfl rfl (Nat.le_trans (by decide) hd) (sk44 hS) (sn44 hS) (Nat.le_of_ble_eq_true rfl) (fun _ => ?_)
  refine wp_aload_n dX3_makePlan_11 rfl rfl ?_
  refine wp_getR dX3_makePlan_12 flX3_45 rfl (sk43 hS) (sn43 hS) (sr43_4 hS) ?_
  refine wp_sipush (v := 511) dX3_makePlan_15 (by decide) ?_
  obtain ⟨I3, hF4, h⟩ := obi h
  refine wp_callVNv (ci := 2) (As := [.int 511]) dX3_makePlan_18 lbX2_drop mnX3_55 imX2_drop seX2_drop vc2 (ct_X2_drop N 0 (Nat.le_refl _) hS (le50 hS) hF4) rfl rfl (Nat.le_trans (by decide) hd) (sk50 hS) (sn50 hS) (Nat.le_of_ble_eq_true rfl) (fun _ => ?_)
  refine wp_iconst (v := 1) dX3_makePlan_21 (by decide) ?_
  refine wp_aload_n dX3_makePlan_22 rfl rfl ?_
  refine wp_getR dX3_makePlan_23 flX3_28 rfl (sk43 hS) (sn43 hS) (sr43_0 hS) ?_
  refine wp_getI dX3_makePlan_26 flX3_59 rfl (sk2 hS) (sn2 hS) ?_
  refine wp_ishl dX3_makePlan_29 ?_
  refine wp_iconst (v := 1) dX3_makePlan_30 (by decide) ?_
  refine wp_isub dX3_makePlan_31 ?_
  refine wp_istore_n (ls' := [(1, .int (((1 : Int32) <<< ((I3 2 2) &&& 31)) - 1)), (0, .ref 43)]) dX3_makePlan_32 rfl (Nat.le_of_ble_eq_true rfl) rfl ?_
  refine wp_iconst (v := 0) dX3_makePlan_33 (by decide) ?_
  refine wp_istore_n (ls' := [(2, .int 0), (1, .int (((1 : Int32) <<< ((I3 2 2) &&& 31)) - 1)), (0, .ref 43)]) dX3_makePlan_34 rfl (Nat.le_of_ble_eq_true rfl) rfl ?_
  obtain ⟨I12, hL913, h⟩ := obi h
  refine wp_pick (ks := [2, 1, 0]) rfl (wX3_makePlan_35 N d hd hS   N (((1 : Int32) <<< ((I3 2 2) &&& 31)) - 1) 0 I3 _ hL913 (fun _ e14 => ?_))
  cases e14
  exact wp_vret dX3_makePlan_94 rfl (by obtain rfl := sji h; exact ⟨rfl, rfl, rfl, rfl⟩)
def mX3_movers_4 (I : gI) : Nat → Int32 → Int32 → Option (Int32)
  | 0, _, _ => none
  | n + 1, v1, v2 => if (I 2 2) ≤ v2 then (some v1) else (ck v2 9 (if (I 37 v2.toNatClampNeg) = 0 then (mX3_movers_4 I n v1 (v2 + 1)) else (if (I 45 v2.toNatClampNeg) = 0 then (mX3_movers_4 I n v1 (v2 + 1)) else (if (I 37 v2.toNatClampNeg) = (I 45 v2.toNatClampNeg) then (mX3_movers_4 I n v1 (v2 + 1)) else (mX3_movers_4 I n (v1 ||| ((1 : Int32) <<< (v2 &&& 31))) (v2 + 1))))))
def mX3_movers (N : Nat) (I : gI) : Option (Int32) := Option.bind (mX3_movers_4 I N 0 0) (fun y6 => some y6)
set_option maxHeartbeats 4000000 in
set_option maxRecDepth 100000 in
theorem wX3_movers_4 (d : Nat) (hd : 0 ≤ d) {S : gS} {J : gJ} (hS : Sh S)  (I : gI) {Q : gO → gS → gI → gJ → Prop} :
    ∀ (n : Nat) (v1 : Int32) (v2 : Int32) (res : Int32), mX3_movers_4 I n v1 v2 = some res → (∀ (o1 : Int32), res = o1 → Wp RX3 cX3_movers 5 (some .int) [] hF d 0 0 63 [(1, .int o1)] [] S I J Q) → Wp RX3 cX3_movers 5 (some .int) [] hF d 0 0 4 [(0, .ref 43), (1, .int v1), (2, .int v2)] [] S I J Q := by
  intro n
  induction n with
  | zero => intro v1 v2 res h; exact nso h
  | succ n ih =>
    intro v1 v2 res h kx
    rw [mX3_movers_4] at h
    refine wp_iload_n dX3_movers_4 rfl rfl ?_
    refine wp_aload_n dX3_movers_5 rfl rfl ?_
    refine wp_getR dX3_movers_6 flX3_28 rfl (sk43 hS) (sn43 hS) (sr43_0 hS) ?_
    refine wp_getI dX3_movers_9 flX3_59 rfl (sk2 hS) (sn2 hS) ?_
    refine wp_icmp_ge (tgt := 63) dX3_movers_12 (by decide) (fun hc1 => ?_) (fun hc1 => ?_)
    · have h := ite_t hc1 h
      exact wp_pick (ks := [1]) rfl (kx _ (sji h).symm)
    · have h := ite_f hc1 h
      refine wp_aload_n dX3_movers_15 rfl rfl ?_
      refine wp_getR dX3_movers_16 flX3_41 rfl (sk43 hS) (sn43 hS) (sr43_2 hS) ?_
      refine wp_getR dX3_movers_19 flX3_48 rfl (sk36 hS) (sn36 hS) (sr36_0 hS) ?_
      refine wp_iload_n dX3_movers_22 rfl rfl ?_
      obtain ⟨hb2, h⟩ := ck_inv h
      refine wp_iald dX3_movers_23 (sk37 hS) (sn37 hS) hb2 ?_
      refine wp_istore_n (ls' := [(3, .int (I 37 v2.toNatClampNeg)), (0, .ref 43), (1, .int v1), (2, .int v2)]) dX3_movers_24 rfl (Nat.le_of_ble_eq_true rfl) rfl ?_
      refine wp_aload_n dX3_movers_25 rfl rfl ?_
      refine wp_getR dX3_movers_26 flX3_12 rfl (sk43 hS) (sn43 hS) (sr43_3 hS) ?_
      refine wp_getR dX3_movers_29 flX3_48 rfl (sk44 hS) (sn44 hS) (sr44_0 hS) ?_
      refine wp_iload_n dX3_movers_32 rfl rfl ?_
      refine wp_iald dX3_movers_33 (sk45 hS) (sn45 hS) hb2 ?_
      refine wp_istore (ls' := [(4, .int (I 45 v2.toNatClampNeg)), (3, .int (I 37 v2.toNatClampNeg)), (0, .ref 43), (1, .int v1), (2, .int v2)]) dX3_movers_34 (Nat.le_of_ble_eq_true rfl) rfl ?_
      refine wp_iload_n dX3_movers_36 rfl rfl ?_
      refine wp_if_eq (tgt := 57) dX3_movers_37 (by decide) (fun hc3 => ?_) (fun hc3 => ?_)
      · have h := ite_t hc3 h
        refine wp_iinc (v := 1) (ls' := [(2, .int (v2 + 1)), (4, .int (I 45 v2.toNatClampNeg)), (3, .int (I 37 v2.toNatClampNeg)), (0, .ref 43), (1, .int v1)]) dX3_movers_57 rfl (by decide) (Nat.le_of_ble_eq_true rfl) rfl ?_
        refine wp_goto (tgt := 4) dX3_movers_60 (by decide) ?_
        exact wp_pick (ks := [3, 4, 0]) rfl (ih _ _ _ h kx)
      · have h := ite_f hc3 h
        refine wp_iload dX3_movers_40 rfl ?_
        refine wp_if_eq (tgt := 57) dX3_movers_42 (by decide) (fun hc4 => ?_) (fun hc4 => ?_)
        · have h := ite_t hc4 h
          refine wp_iinc (v := 1) (ls' := [(2, .int (v2 + 1)), (4, .int (I 45 v2.toNatClampNeg)), (3, .int (I 37 v2.toNatClampNeg)), (0, .ref 43), (1, .int v1)]) dX3_movers_57 rfl (by decide) (Nat.le_of_ble_eq_true rfl) rfl ?_
          refine wp_goto (tgt := 4) dX3_movers_60 (by decide) ?_
          exact wp_pick (ks := [3, 4, 0]) rfl (ih _ _ _ h kx)
        · have h := ite_f hc4 h
          refine wp_iload_n dX3_movers_45 rfl rfl ?_
          refine wp_iload dX3_movers_46 rfl ?_
          refine wp_icmp_eq (tgt := 57) dX3_movers_48 (by decide) (fun hc5 => ?_) (fun hc5 => ?_)
          · have h := ite_t hc5 h
            refine wp_iinc (v := 1) (ls' := [(2, .int (v2 + 1)), (4, .int (I 45 v2.toNatClampNeg)), (3, .int (I 37 v2.toNatClampNeg)), (0, .ref 43), (1, .int v1)]) dX3_movers_57 rfl (by decide) (Nat.le_of_ble_eq_true rfl) rfl ?_
            refine wp_goto (tgt := 4) dX3_movers_60 (by decide) ?_
            exact wp_pick (ks := [3, 4, 0]) rfl (ih _ _ _ h kx)
          · have h := ite_f hc5 h
            refine wp_iload_n dX3_movers_51 rfl rfl ?_
            refine wp_iconst (v := 1) dX3_movers_52 (by decide) ?_
            refine wp_iload_n dX3_movers_53 rfl rfl ?_
            refine wp_ishl dX3_movers_54 ?_
            refine wp_ior dX3_movers_55 ?_
            refine wp_istore_n (ls' := [(1, .int (v1 ||| ((1 : Int32) <<< (v2 &&& 31)))), (4, .int (I 45 v2.toNatClampNeg)), (3, .int (I 37 v2.toNatClampNeg)), (0, .ref 43), (2, .int v2)]) dX3_movers_56 rfl (Nat.le_of_ble_eq_true rfl) rfl ?_
            refine wp_iinc (v := 1) (ls' := [(2, .int (v2 + 1)), (1, .int (v1 ||| ((1 : Int32) <<< (v2 &&& 31)))), (4, .int (I 45 v2.toNatClampNeg)), (3, .int (I 37 v2.toNatClampNeg)), (0, .ref 43)]) dX3_movers_57 rfl (by decide) (Nat.le_of_ble_eq_true rfl) rfl ?_
            refine wp_goto (tgt := 4) dX3_movers_60 (by decide) ?_
            exact wp_pick (ks := [4, 1, 0]) rfl (ih _ _ _ h kx)
set_option maxHeartbeats 4000000 in
set_option maxRecDepth 100000 in
theorem ct_X3_movers (N : Nat) (d : Nat) (hd : 0 ≤ d) {S : gS} {J : gJ} (hS : Sh S)  {I : gI} {r : Int32} (h : mX3_movers N I = some r) : Ct yX3_movers (wsY yX3_movers cX3_movers 5 (some .int)) d 0 0 [.ref 43] S I J (qE (.inl (some (.int r))) S I J) := by
  refine Ct.of hF (fun _ _ _ _ _ => trivial) (by decide +kernel) (Nat.le_of_ble_eq_true rfl) ⟨Or.inl (sn43 hS), trivial⟩ ?_
  show Wp RX3 cX3_movers 5 (some .int) [] hF d 0 0 0 [(0, .ref 43)] [] S I J _
  unfold mX3_movers at h
  refine wp_iconst (v := 0) dX3_movers_0 (by decide) ?_
  refine wp_istore_n (ls' := [(1, .int 0), (0, .ref 43)]) dX3_movers_1 rfl (Nat.le_of_ble_eq_true rfl) rfl ?_
  refine wp_iconst (v := 0) dX3_movers_2 (by decide) ?_
  refine wp_istore_n (ls' := [(2, .int 0), (1, .int 0), (0, .ref 43)]) dX3_movers_3 rfl (Nat.le_of_ble_eq_true rfl) rfl ?_
  obtain ⟨y6, hL97, h⟩ := obi h
  refine wp_pick (ks := [2, 1, 0]) rfl (wX3_movers_4 d hd hS  I N 0 0 _ hL97 (fun _ e8 => ?_))
  cases e8
  refine wp_iload_n dX3_movers_63 rfl rfl ?_
  exact wp_iret dX3_movers_64 rfl (by obtain rfl := sji h; exact ⟨rfl, rfl, rfl, rfl⟩)
def mX3_book_2 (k1 : Int32) (k2 : Int32) : Nat → Int32 → gI → Option (gI)
  | 0, _, _ => none
  | n + 1, v3, I => if (I 2 1) ≤ v3 then (some I) else (if ((ushr k1 v3) &&& 1) = 0 then (mX3_book_2 k1 k2 n (v3 + 1) I) else (ck v3 16 (mX3_book_2 k1 k2 n (v3 + 1) (upd2 I 47 v3.toNatClampNeg ((I 47 v3.toNatClampNeg) + k2)))))
def mX3_book (N : Nat) (a2 : Int32) (a3 : Int32) (I : gI) : Option (gI) := Option.bind (mX3_book_2 a2 a3 N 0 I) (fun I4 => some I4)
set_option maxHeartbeats 4000000 in
set_option maxRecDepth 100000 in
theorem wX3_book_2 (d : Nat) (hd : 0 ≤ d) {S : gS} {J : gJ} (hS : Sh S)  (k1 : Int32) (k2 : Int32) {Q : gO → gS → gI → gJ → Prop} :
    ∀ (n : Nat) (v3 : Int32) (I : gI) (res : gI), mX3_book_2 k1 k2 n v3 I = some res → (∀ (O : gI), res = O → Wp RX3 cX3_book 4 none [] hF d 0 0 37 [] [] S O J Q) → Wp RX3 cX3_book 4 none [] hF d 0 0 2 [(0, .ref 43), (1, .int k1), (2, .int k2), (3, .int v3)] [] S I J Q := by
  intro n
  induction n with
  | zero => intro v3 I res h; exact nso h
  | succ n ih =>
    intro v3 I res h kx
    rw [mX3_book_2] at h
    refine wp_iload_n dX3_book_2 rfl rfl ?_
    refine wp_aload_n dX3_book_3 rfl rfl ?_
    refine wp_getR dX3_book_4 flX3_28 rfl (sk43 hS) (sn43 hS) (sr43_0 hS) ?_
    refine wp_getI dX3_book_7 flX3_107 rfl (sk2 hS) (sn2 hS) ?_
    refine wp_icmp_ge (tgt := 37) dX3_book_10 (by decide) (fun hc1 => ?_) (fun hc1 => ?_)
    · have h := ite_t hc1 h
      exact wp_pick (ks := []) rfl (kx _ (sji h).symm)
    · have h := ite_f hc1 h
      refine wp_iload_n dX3_book_13 rfl rfl ?_
      refine wp_iload_n dX3_book_14 rfl rfl ?_
      refine wp_iushr dX3_book_15 ?_
      refine wp_iconst (v := 1) dX3_book_16 (by decide) ?_
      refine wp_iand dX3_book_17 ?_
      refine wp_if_eq (tgt := 31) dX3_book_18 (by decide) (fun hc2 => ?_) (fun hc2 => ?_)
      · have h := ite_t hc2 h
        refine wp_iinc (v := 1) (ls' := [(3, .int (v3 + 1)), (0, .ref 43), (1, .int k1), (2, .int k2)]) dX3_book_31 rfl (by decide) (Nat.le_of_ble_eq_true rfl) rfl ?_
        refine wp_goto (tgt := 2) dX3_book_34 (by decide) ?_
        exact wp_pick (ks := [1, 2, 3, 0]) rfl (ih _ _ _ h kx)
      · have h := ite_f hc2 h
        refine wp_aload_n dX3_book_21 rfl rfl ?_
        refine wp_getR dX3_book_22 flX3_18 rfl (sk43 hS) (sn43 hS) (sr43_5 hS) ?_
        refine wp_iload_n dX3_book_25 rfl rfl ?_
        refine wp_dup2 dX3_book_26 rfl rfl ?_
        obtain ⟨hb3, h⟩ := ck_inv h
        refine wp_iald dX3_book_27 (sk47 hS) (sn47 hS) hb3 ?_
        refine wp_iload_n dX3_book_28 rfl rfl ?_
        refine wp_iadd dX3_book_29 ?_
        refine wp_iast dX3_book_30 (sk47 hS) (sn47 hS) hb3 ?_
        refine wp_iinc (v := 1) (ls' := [(3, .int (v3 + 1)), (0, .ref 43), (1, .int k1), (2, .int k2)]) dX3_book_31 rfl (by decide) (Nat.le_of_ble_eq_true rfl) rfl ?_
        refine wp_goto (tgt := 2) dX3_book_34 (by decide) ?_
        exact wp_pick (ks := [1, 2, 3, 0]) rfl (ih _ _ _ h kx)
set_option maxHeartbeats 4000000 in
set_option maxRecDepth 100000 in
theorem ct_X3_book (N : Nat) (d : Nat) (hd : 0 ≤ d) {S : gS} {J : gJ} (hS : Sh S)  {a2 : Int32} {a3 : Int32} {I : gI} {r : gI} (h : mX3_book N a2 a3 I = some r) : Ct yX3_book (wsY yX3_book cX3_book 4 none) d 0 0 [.ref 43, .int a2, .int a3] S I J (qE (.inl none) S r J) := by
  refine Ct.of hF (fun _ _ _ _ _ => trivial) (by decide +kernel) (Nat.le_of_ble_eq_true rfl) ⟨Or.inl (sn43 hS), trivial, trivial, trivial⟩ ?_
  show Wp RX3 cX3_book 4 none [] hF d 0 0 0 [(0, .ref 43), (1, .int a2), (2, .int a3)] [] S I J _
  unfold mX3_book at h
  refine wp_iconst (v := 0) dX3_book_0 (by decide) ?_
  refine wp_istore_n (ls' := [(3, .int 0), (0, .ref 43), (1, .int a2), (2, .int a3)]) dX3_book_1 rfl (Nat.le_of_ble_eq_true rfl) rfl ?_
  obtain ⟨I4, hL95, h⟩ := obi h
  refine wp_pick (ks := [1, 2, 3, 0]) rfl (wX3_book_2 d hd hS  a2 a3 N 0 I _ hL95 (fun _ e6 => ?_))
  cases e6
  exact wp_vret dX3_book_37 rfl (by obtain rfl := sji h; exact ⟨rfl, rfl, rfl, rfl⟩)
def mX3_countTaken_2 (N : Nat) (k1 : Int32) : Nat → Int32 → gI → Option (gI)
  | 0, _, _ => none
  | n + 1, v2, I => if (I 2 1) ≤ v2 then (some I) else (Option.bind (mX2_taken N 36 v2 I) (fun r2 => ck v2 16 (mX3_countTaken_2 N k1 n (v2 + 1) (upd2 I 47 v2.toNatClampNeg r2))))
def mX3_countTaken_35 (N : Nat) (k1 : Int32) : Nat → Int32 → gI → Option (gI)
  | 0, _, _ => none
  | n + 1, v2, I => if (I 2 2) ≤ v2 then (some I) else (if ((ushr k1 v2) &&& 1) = 0 then (mX3_countTaken_35 N k1 n (v2 + 1) I) else (ck v2 9 (Option.bind (mX3_book N (I 37 v2.toNatClampNeg) (-(I 38 v2.toNatClampNeg)) I) (fun I9 => mX3_countTaken_35 N k1 n (v2 + 1) I9))))
def mX3_countTaken (N : Nat) (a2 : Int32) (I : gI) : Option (gI) := Option.bind (mX3_countTaken_2 N a2 N 0 I) (fun I5 => Option.bind (mX3_countTaken_35 N a2 N 0 I5) (fun I11 => some I11))
set_option maxHeartbeats 4000000 in
set_option maxRecDepth 100000 in
theorem wX3_countTaken_2 (N : Nat) (d : Nat) (hd : 2 ≤ d) {S : gS} {J : gJ} (hS : Sh S)  (k1 : Int32) {Q : gO → gS → gI → gJ → Prop} :
    ∀ (n : Nat) (v2 : Int32) (I : gI) (res : gI), mX3_countTaken_2 N k1 n v2 I = some res → (∀ (O : gI), res = O → Wp RX3 cX3_countTaken 3 none [] hF d 0 0 33 [(0, .ref 43), (1, .int k1)] [] S O J Q) → Wp RX3 cX3_countTaken 3 none [] hF d 0 0 2 [(0, .ref 43), (1, .int k1), (2, .int v2)] [] S I J Q := by
  intro n
  induction n with
  | zero => intro v2 I res h; exact nso h
  | succ n ih =>
    intro v2 I res h kx
    rw [mX3_countTaken_2] at h
    refine wp_iload_n dX3_countTaken_2 rfl rfl ?_
    refine wp_aload_n dX3_countTaken_3 rfl rfl ?_
    refine wp_getR dX3_countTaken_4 flX3_28 rfl (sk43 hS) (sn43 hS) (sr43_0 hS) ?_
    refine wp_getI dX3_countTaken_7 flX3_107 rfl (sk2 hS) (sn2 hS) ?_
    refine wp_icmp_ge (tgt := 33) dX3_countTaken_10 (by decide) (fun hc1 => ?_) (fun hc1 => ?_)
    · have h := ite_t hc1 h
      exact wp_pick (ks := [0, 1]) rfl (kx _ (sji h).symm)
    · have h := ite_f hc1 h
      refine wp_aload_n dX3_countTaken_13 rfl rfl ?_
      refine wp_getR dX3_countTaken_14 flX3_18 rfl (sk43 hS) (sn43 hS) (sr43_5 hS) ?_
      refine wp_iload_n dX3_countTaken_17 rfl rfl ?_
      refine wp_aload_n dX3_countTaken_18 rfl rfl ?_
      refine wp_getR dX3_countTaken_19 flX3_32 rfl (sk43 hS) (sn43 hS) (sr43_1 hS) ?_
      refine wp_iload_n dX3_countTaken_22 rfl rfl ?_
      obtain ⟨r2, hF3, h⟩ := obi h
      refine wp_callVNi (ci := 2) (As := [.int v2]) dX3_countTaken_23 lbX2_taken mnX3_119 imX2_taken seX2_taken vc2 (ct_X2_taken N 1 (Nat.le_refl _) hS (le42 hS) hF3) rfl rfl (Nat.le_trans (by decide) hd) (sk42 hS) (sn42 hS) (Nat.le_of_ble_eq_true rfl) (fun _ => ?_)
      obtain ⟨hb4, h⟩ := ck_inv h
      refine wp_iast dX3_countTaken_26 (sk47 hS) (sn47 hS) hb4 ?_
      refine wp_iinc (v := 1) (ls' := [(2, .int (v2 + 1)), (0, .ref 43), (1, .int k1)]) dX3_countTaken_27 rfl (by decide) (Nat.le_of_ble_eq_true rfl) rfl ?_
      refine wp_goto (tgt := 2) dX3_countTaken_30 (by decide) ?_
      exact wp_pick (ks := [1, 2, 0]) rfl (ih _ _ _ h kx)
set_option maxHeartbeats 4000000 in
set_option maxRecDepth 100000 in
theorem wX3_countTaken_35 (N : Nat) (d : Nat) (hd : 2 ≤ d) {S : gS} {J : gJ} (hS : Sh S)  (k1 : Int32) {Q : gO → gS → gI → gJ → Prop} :
    ∀ (n : Nat) (v2 : Int32) (I : gI) (res : gI), mX3_countTaken_35 N k1 n v2 I = some res → (∀ (O : gI), res = O → Wp RX3 cX3_countTaken 3 none [] hF d 0 0 83 [] [] S O J Q) → Wp RX3 cX3_countTaken 3 none [] hF d 0 0 35 [(0, .ref 43), (1, .int k1), (2, .int v2)] [] S I J Q := by
  intro n
  induction n with
  | zero => intro v2 I res h; exact nso h
  | succ n ih =>
    intro v2 I res h kx
    rw [mX3_countTaken_35] at h
    refine wp_iload_n dX3_countTaken_35 rfl rfl ?_
    refine wp_aload_n dX3_countTaken_36 rfl rfl ?_
    refine wp_getR dX3_countTaken_37 flX3_28 rfl (sk43 hS) (sn43 hS) (sr43_0 hS) ?_
    refine wp_getI dX3_countTaken_40 flX3_59 rfl (sk2 hS) (sn2 hS) ?_
    refine wp_icmp_ge (tgt := 83) dX3_countTaken_43 (by decide) (fun hc6 => ?_) (fun hc6 => ?_)
    · have h := ite_t hc6 h
      exact wp_pick (ks := []) rfl (kx _ (sji h).symm)
    · have h := ite_f hc6 h
      refine wp_iload_n dX3_countTaken_46 rfl rfl ?_
      refine wp_iload_n dX3_countTaken_47 rfl rfl ?_
      refine wp_iushr dX3_countTaken_48 ?_
      refine wp_iconst (v := 1) dX3_countTaken_49 (by decide) ?_
      refine wp_iand dX3_countTaken_50 ?_
      refine wp_if_eq (tgt := 77) dX3_countTaken_51 (by decide) (fun hc7 => ?_) (fun hc7 => ?_)
      · have h := ite_t hc7 h
        refine wp_iinc (v := 1) (ls' := [(2, .int (v2 + 1)), (0, .ref 43), (1, .int k1)]) dX3_countTaken_77 rfl (by decide) (Nat.le_of_ble_eq_true rfl) rfl ?_
        refine wp_goto (tgt := 35) dX3_countTaken_80 (by decide) ?_
        exact wp_pick (ks := [1, 2, 0]) rfl (ih _ _ _ h kx)
      · have h := ite_f hc7 h
        refine wp_aload_n dX3_countTaken_54 rfl rfl ?_
        refine wp_aload_n dX3_countTaken_55 rfl rfl ?_
        refine wp_getR dX3_countTaken_56 flX3_41 rfl (sk43 hS) (sn43 hS) (sr43_2 hS) ?_
        refine wp_getR dX3_countTaken_59 flX3_48 rfl (sk36 hS) (sn36 hS) (sr36_0 hS) ?_
        refine wp_iload_n dX3_countTaken_62 rfl rfl ?_
        obtain ⟨hb8, h⟩ := ck_inv h
        refine wp_iald dX3_countTaken_63 (sk37 hS) (sn37 hS) hb8 ?_
        refine wp_aload_n dX3_countTaken_64 rfl rfl ?_
        refine wp_getR dX3_countTaken_65 flX3_41 rfl (sk43 hS) (sn43 hS) (sr43_2 hS) ?_
        refine wp_getR dX3_countTaken_68 flX3_69 rfl (sk36 hS) (sn36 hS) (sr36_1 hS) ?_
        refine wp_iload_n dX3_countTaken_71 rfl rfl ?_
        refine wp_iald dX3_countTaken_72 (sk38 hS) (sn38 hS) hb8 ?_
        refine wp_ineg dX3_countTaken_73 ?_
        obtain ⟨I9, hF10, h⟩ := obi h
        refine wp_callVv (ci := 3) (As := [.int (I 37 v2.toNatClampNeg), .int (-(I 38 v2.toNatClampNeg))]) dX3_countTaken_74 lbX3_book mlX3_103 imX3_book seX3_book vc3 (ct_X3_book N 0 (Nat.le_refl _) hS  hF10) rfl rfl (Nat.le_trans (by decide) hd) (sk43 hS) (sn43 hS) (Nat.le_of_ble_eq_true rfl) (fun _ => ?_)
        refine wp_iinc (v := 1) (ls' := [(2, .int (v2 + 1)), (0, .ref 43), (1, .int k1)]) dX3_countTaken_77 rfl (by decide) (Nat.le_of_ble_eq_true rfl) rfl ?_
        refine wp_goto (tgt := 35) dX3_countTaken_80 (by decide) ?_
        exact wp_pick (ks := [1, 2, 0]) rfl (ih _ _ _ h kx)
set_option maxHeartbeats 4000000 in
set_option maxRecDepth 100000 in
theorem ct_X3_countTaken (N : Nat) (d : Nat) (hd : 2 ≤ d) {S : gS} {J : gJ} (hS : Sh S)  {a2 : Int32} {I : gI} {r : gI} (h : mX3_countTaken N a2 I = some r) : Ct yX3_countTaken (wsY yX3_countTaken cX3_countTaken 3 none) d 0 0 [.ref 43, .int a2] S I J (qE (.inl none) S r J) := by
  refine Ct.of hF (fun _ _ _ _ _ => trivial) (by decide +kernel) (Nat.le_of_ble_eq_true rfl) ⟨Or.inl (sn43 hS), trivial, trivial⟩ ?_
  show Wp RX3 cX3_countTaken 3 none [] hF d 0 0 0 [(0, .ref 43), (1, .int a2)] [] S I J _
  unfold mX3_countTaken at h
  refine wp_iconst (v := 0) dX3_countTaken_0 (by decide) ?_
  refine wp_istore_n (ls' := [(2, .int 0), (0, .ref 43), (1, .int a2)]) dX3_countTaken_1 rfl (Nat.le_of_ble_eq_true rfl) rfl ?_
  obtain ⟨I5, hL914, h⟩ := obi h
  refine wp_pick (ks := [1, 2, 0]) rfl (wX3_countTaken_2 N d hd hS  a2 N 0 I _ hL914 (fun _ e15 => ?_))
  cases e15
  refine wp_iconst (v := 0) dX3_countTaken_33 (by decide) ?_
  refine wp_istore_n (ls' := [(2, .int 0), (0, .ref 43), (1, .int a2)]) dX3_countTaken_34 rfl (Nat.le_of_ble_eq_true rfl) rfl ?_
  obtain ⟨I11, hL912, h⟩ := obi h
  refine wp_pick (ks := [1, 2, 0]) rfl (wX3_countTaken_35 N d hd hS  a2 N 0 I5 _ hL912 (fun _ e13 => ?_))
  cases e13
  exact wp_vret dX3_countTaken_83 rfl (by obtain rfl := sji h; exact ⟨rfl, rfl, rfl, rfl⟩)
def mX3_endFits_7 (N : Nat) (k1 : Int32) : Nat → Int32 → gI → Option (gI)
  | 0, _, _ => none
  | n + 1, v2, I => if (I 2 2) ≤ v2 then (some I) else (if ((ushr k1 v2) &&& 1) = 0 then (mX3_endFits_7 N k1 n (v2 + 1) I) else (ck v2 9 (Option.bind (mX3_book N (I 37 v2.toNatClampNeg) (-(I 38 v2.toNatClampNeg)) I) (fun I6 => Option.bind (mX3_book N (I6 45 v2.toNatClampNeg) (I6 38 v2.toNatClampNeg) I6) (fun I8 => mX3_endFits_7 N k1 n (v2 + 1) I8)))))
def mX3_endFits_79 (I : gI) : Nat → Int32 → Option ((Unit) ⊕ (Int32 × gI))
  | 0, _ => none
  | n + 1, v2 => if (I 2 1) ≤ v2 then (some (.inl ())) else (ck v2 16 (if (I 47 v2.toNatClampNeg) ≤ (I 6 v2.toNatClampNeg) then (mX3_endFits_79 I n (v2 + 1)) else (some (.inr (0, I)))))
def mX3_endFits (N : Nat) (a2 : Int32) (I : gI) : Option (Int32 × gI) := Option.bind (mX3_countTaken N 0 I) (fun I1 => Option.bind (mX3_endFits_7 N a2 N 0 I1) (fun I10 => lbind (mX3_endFits_79 I10 N 0) (fun _ => some (1, I10)) (fun (r16, I17) => some (r16, I17))))
set_option maxHeartbeats 4000000 in
set_option maxRecDepth 100000 in
theorem wX3_endFits_7 (N : Nat) (d : Nat) (hd : 3 ≤ d) {S : gS} {J : gJ} (hS : Sh S)  (k1 : Int32) {Q : gO → gS → gI → gJ → Prop} :
    ∀ (n : Nat) (v2 : Int32) (I : gI) (res : gI), mX3_endFits_7 N k1 n v2 I = some res → (∀ (O : gI), res = O → Wp RX3 cX3_endFits 3 (some .boolean) [] hF d 0 0 77 [(0, .ref 43)] [] S O J Q) → Wp RX3 cX3_endFits 3 (some .boolean) [] hF d 0 0 7 [(0, .ref 43), (1, .int k1), (2, .int v2)] [] S I J Q := by
  intro n
  induction n with
  | zero => intro v2 I res h; exact nso h
  | succ n ih =>
    intro v2 I res h kx
    rw [mX3_endFits_7] at h
    refine wp_iload_n dX3_endFits_7 rfl rfl ?_
    refine wp_aload_n dX3_endFits_8 rfl rfl ?_
    refine wp_getR dX3_endFits_9 flX3_28 rfl (sk43 hS) (sn43 hS) (sr43_0 hS) ?_
    refine wp_getI dX3_endFits_12 flX3_59 rfl (sk2 hS) (sn2 hS) ?_
    refine wp_icmp_ge (tgt := 77) dX3_endFits_15 (by decide) (fun hc3 => ?_) (fun hc3 => ?_)
    · have h := ite_t hc3 h
      exact wp_pick (ks := [0]) rfl (kx _ (sji h).symm)
    · have h := ite_f hc3 h
      refine wp_iload_n dX3_endFits_18 rfl rfl ?_
      refine wp_iload_n dX3_endFits_19 rfl rfl ?_
      refine wp_iushr dX3_endFits_20 ?_
      refine wp_iconst (v := 1) dX3_endFits_21 (by decide) ?_
      refine wp_iand dX3_endFits_22 ?_
      refine wp_if_eq (tgt := 71) dX3_endFits_23 (by decide) (fun hc4 => ?_) (fun hc4 => ?_)
      · have h := ite_t hc4 h
        refine wp_iinc (v := 1) (ls' := [(2, .int (v2 + 1)), (0, .ref 43), (1, .int k1)]) dX3_endFits_71 rfl (by decide) (Nat.le_of_ble_eq_true rfl) rfl ?_
        refine wp_goto (tgt := 7) dX3_endFits_74 (by decide) ?_
        exact wp_pick (ks := [1, 2, 0]) rfl (ih _ _ _ h kx)
      · have h := ite_f hc4 h
        refine wp_aload_n dX3_endFits_26 rfl rfl ?_
        refine wp_aload_n dX3_endFits_27 rfl rfl ?_
        refine wp_getR dX3_endFits_28 flX3_41 rfl (sk43 hS) (sn43 hS) (sr43_2 hS) ?_
        refine wp_getR dX3_endFits_31 flX3_48 rfl (sk36 hS) (sn36 hS) (sr36_0 hS) ?_
        refine wp_iload_n dX3_endFits_34 rfl rfl ?_
        obtain ⟨hb5, h⟩ := ck_inv h
        refine wp_iald dX3_endFits_35 (sk37 hS) (sn37 hS) hb5 ?_
        refine wp_aload_n dX3_endFits_36 rfl rfl ?_
        refine wp_getR dX3_endFits_37 flX3_41 rfl (sk43 hS) (sn43 hS) (sr43_2 hS) ?_
        refine wp_getR dX3_endFits_40 flX3_69 rfl (sk36 hS) (sn36 hS) (sr36_1 hS) ?_
        refine wp_iload_n dX3_endFits_43 rfl rfl ?_
        refine wp_iald dX3_endFits_44 (sk38 hS) (sn38 hS) hb5 ?_
        refine wp_ineg dX3_endFits_45 ?_
        obtain ⟨I6, hF7, h⟩ := obi h
        refine wp_callVv (ci := 3) (As := [.int (I 37 v2.toNatClampNeg), .int (-(I 38 v2.toNatClampNeg))]) dX3_endFits_46 lbX3_book mlX3_103 imX3_book seX3_book vc3 (ct_X3_book N 0 (Nat.le_refl _) hS  hF7) rfl rfl (Nat.le_trans (by decide) hd) (sk43 hS) (sn43 hS) (Nat.le_of_ble_eq_true rfl) (fun _ => ?_)
        refine wp_aload_n dX3_endFits_49 rfl rfl ?_
        refine wp_aload_n dX3_endFits_50 rfl rfl ?_
        refine wp_getR dX3_endFits_51 flX3_12 rfl (sk43 hS) (sn43 hS) (sr43_3 hS) ?_
        refine wp_getR dX3_endFits_54 flX3_48 rfl (sk44 hS) (sn44 hS) (sr44_0 hS) ?_
        refine wp_iload_n dX3_endFits_57 rfl rfl ?_
        refine wp_iald dX3_endFits_58 (sk45 hS) (sn45 hS) hb5 ?_
        refine wp_aload_n dX3_endFits_59 rfl rfl ?_
        refine wp_getR dX3_endFits_60 flX3_41 rfl (sk43 hS) (sn43 hS) (sr43_2 hS) ?_
        refine wp_getR dX3_endFits_63 flX3_69 rfl (sk36 hS) (sn36 hS) (sr36_1 hS) ?_
        refine wp_iload_n dX3_endFits_66 rfl rfl ?_
        refine wp_iald dX3_endFits_67 (sk38 hS) (sn38 hS) hb5 ?_
        obtain ⟨I8, hF9, h⟩ := obi h
        refine wp_callVv (ci := 3) (As := [.int (I6 45 v2.toNatClampNeg), .int (I6 38 v2.toNatClampNeg)]) dX3_endFits_68 lbX3_book mlX3_103 imX3_book seX3_book vc3 (ct_X3_book N 0 (Nat.le_refl _) hS  hF9) rfl rfl (Nat.le_trans (by decide) hd) (sk43 hS) (sn43 hS) (Nat.le_of_ble_eq_true rfl) (fun _ => ?_)
        refine wp_iinc (v := 1) (ls' := [(2, .int (v2 + 1)), (0, .ref 43), (1, .int k1)]) dX3_endFits_71 rfl (by decide) (Nat.le_of_ble_eq_true rfl) rfl ?_
        refine wp_goto (tgt := 7) dX3_endFits_74 (by decide) ?_
        exact wp_pick (ks := [1, 2, 0]) rfl (ih _ _ _ h kx)
set_option maxHeartbeats 4000000 in
set_option maxRecDepth 100000 in
theorem wX3_endFits_79 (d : Nat) (hd : 3 ≤ d) {S : gS} {J : gJ} (hS : Sh S)  (I : gI) {Q : gO → gS → gI → gJ → Prop} :
    ∀ (n : Nat) (v2 : Int32) (res : (Unit) ⊕ (Int32 × gI)), mX3_endFits_79 I n v2 = some res → (res = Sum.inl () → Wp RX3 cX3_endFits 3 (some .boolean) [] hF d 0 0 116 [] [] S I J Q) → (∀ (r : Int32) (O : gI), res = Sum.inr (r, O) → Q (.inl (some (.int r))) S O J) → Wp RX3 cX3_endFits 3 (some .boolean) [] hF d 0 0 79 [(0, .ref 43), (2, .int v2)] [] S I J Q := by
  intro n
  induction n with
  | zero => intro v2 res h; exact nso h
  | succ n ih =>
    intro v2 res h kx kr
    rw [mX3_endFits_79] at h
    refine wp_iload_n dX3_endFits_79 rfl rfl ?_
    refine wp_aload_n dX3_endFits_80 rfl rfl ?_
    refine wp_getR dX3_endFits_81 flX3_28 rfl (sk43 hS) (sn43 hS) (sr43_0 hS) ?_
    refine wp_getI dX3_endFits_84 flX3_107 rfl (sk2 hS) (sn2 hS) ?_
    refine wp_icmp_ge (tgt := 116) dX3_endFits_87 (by decide) (fun hc11 => ?_) (fun hc11 => ?_)
    · have h := ite_t hc11 h
      exact wp_pick (ks := []) rfl (kx (sji h).symm)
    · have h := ite_f hc11 h
      refine wp_aload_n dX3_endFits_90 rfl rfl ?_
      refine wp_getR dX3_endFits_91 flX3_18 rfl (sk43 hS) (sn43 hS) (sr43_5 hS) ?_
      refine wp_iload_n dX3_endFits_94 rfl rfl ?_
      obtain ⟨hb12, h⟩ := ck_inv h
      refine wp_iald dX3_endFits_95 (sk47 hS) (sn47 hS) hb12 ?_
      refine wp_aload_n dX3_endFits_96 rfl rfl ?_
      refine wp_getR dX3_endFits_97 flX3_28 rfl (sk43 hS) (sn43 hS) (sr43_0 hS) ?_
      refine wp_getR dX3_endFits_100 flX3_110 rfl (sk2 hS) (sn2 hS) (sr2_6 hS) ?_
      refine wp_iload_n dX3_endFits_103 rfl rfl ?_
      refine wp_iald dX3_endFits_104 (sk6 hS) (sn6 hS) hb12 ?_
      refine wp_icmp_le (tgt := 110) dX3_endFits_105 (by decide) (fun hc13 => ?_) (fun hc13 => ?_)
      · have h := ite_t hc13 h
        refine wp_iinc (v := 1) (ls' := [(2, .int (v2 + 1)), (0, .ref 43)]) dX3_endFits_110 rfl (by decide) (Nat.le_of_ble_eq_true rfl) rfl ?_
        refine wp_goto (tgt := 79) dX3_endFits_113 (by decide) ?_
        exact wp_pick (ks := [1, 0]) rfl (ih _ _ h kx kr)
      · have h := ite_f hc13 h
        refine wp_iconst (v := 0) dX3_endFits_108 (by decide) ?_
        exact wp_zret dX3_endFits_109 rfl (by decide) (kr _ _ (sji h).symm)
set_option maxHeartbeats 4000000 in
set_option maxRecDepth 100000 in
theorem ct_X3_endFits (N : Nat) (d : Nat) (hd : 3 ≤ d) {S : gS} {J : gJ} (hS : Sh S)  {a2 : Int32} {I : gI} {r : Int32 × gI} (h : mX3_endFits N a2 I = some r) : Ct yX3_endFits (wsY yX3_endFits cX3_endFits 3 (some .boolean)) d 0 0 [.ref 43, .int a2] S I J (qE (.inl (some (.int r.1))) S r.2 J) := by
  refine Ct.of hF (fun _ _ _ _ _ => trivial) (by decide +kernel) (Nat.le_of_ble_eq_true rfl) ⟨Or.inl (sn43 hS), trivial, trivial⟩ ?_
  show Wp RX3 cX3_endFits 3 (some .boolean) [] hF d 0 0 0 [(0, .ref 43), (1, .int a2)] [] S I J _
  unfold mX3_endFits at h
  refine wp_aload_n dX3_endFits_0 rfl rfl ?_
  refine wp_iconst (v := 0) dX3_endFits_1 (by decide) ?_
  obtain ⟨I1, hF2, h⟩ := obi h
  refine wp_callVv (ci := 3) (As := [.int 0]) dX3_endFits_2 lbX3_countTaken mlX3_100 imX3_countTaken seX3_countTaken vc3 (ct_X3_countTaken N 2 (Nat.le_refl _) hS  hF2) rfl rfl (Nat.le_trans (by decide) hd) (sk43 hS) (sn43 hS) (Nat.le_of_ble_eq_true rfl) (fun _ => ?_)
  refine wp_iconst (v := 0) dX3_endFits_5 (by decide) ?_
  refine wp_istore_n (ls' := [(2, .int 0), (0, .ref 43), (1, .int a2)]) dX3_endFits_6 rfl (Nat.le_of_ble_eq_true rfl) rfl ?_
  obtain ⟨I10, hL918, h⟩ := obi h
  refine wp_pick (ks := [1, 2, 0]) rfl (wX3_endFits_7 N d hd hS  a2 N 0 I1 _ hL918 (fun _ e19 => ?_))
  cases e19
  refine wp_iconst (v := 0) dX3_endFits_77 (by decide) ?_
  refine wp_istore_n (ls' := [(2, .int 0), (0, .ref 43)]) dX3_endFits_78 rfl (Nat.le_of_ble_eq_true rfl) rfl ?_
  rcases lbi h with ⟨⟨⟩, hL914, h⟩ | ⟨⟨r16, I17⟩, hL914, h⟩
  · refine wp_pick (ks := [1, 0]) rfl (wX3_endFits_79 d hd hS  I10 N 0 _ hL914 (fun  e15 => ?_) (fun _ _ e9 => by cases e9))
    cases e15
    refine wp_iconst (v := 1) dX3_endFits_116 (by decide) ?_
    exact wp_zret dX3_endFits_117 rfl (by decide) (by obtain rfl := sji h; exact ⟨rfl, rfl, rfl, rfl⟩)
  · refine wp_pick (ks := [1, 0]) rfl (wX3_endFits_79 d hd hS  I10 N 0 _ hL914 (fun  e9 => by cases e9) (fun _ _ e15 => ?_))
    cases e15
    exact (by obtain rfl := sji h; exact ⟨rfl, rfl, rfl, rfl⟩)
def mX3_mayMove_24 (k1 : Int32) (k2 : Int32) (I : gI) : Nat → Int32 → Option ((Unit) ⊕ (Int32))
  | 0, _ => none
  | n + 1, v3 => if (I 2 1) ≤ v3 then (some (.inl ())) else (ck v3 16 (ck k1 9 (Option.bind (if ((I 47 v3.toNatClampNeg) + (I 38 k1.toNatClampNeg)) ≤ (I 6 v3.toNatClampNeg) then (some 0) else (some 1) : Option (Int32)) (fun x7 => if x7 = 0 then (mX3_mayMove_24 k1 k2 I n (v3 + 1)) else (if ((ushr k2 v3) &&& 1) = 0 then (mX3_mayMove_24 k1 k2 I n (v3 + 1)) else (some (.inr 0)))))))
def mX3_mayMove (N : Nat) (a2 : Int32) (I : gI) : Option (Int32) := ck a2 9 (nm ((I 45 a2.toNatClampNeg) &&& ((I 37 a2.toNatClampNeg) ^^^ (-1))) (fun x2 => lbind (mX3_mayMove_24 a2 x2 I N 0) (fun _ => some 1) (fun r14 => some r14)))
set_option maxHeartbeats 4000000 in
set_option maxRecDepth 100000 in
theorem wX3_mayMove_24 (d : Nat) (hd : 0 ≤ d) {S : gS} {J : gJ} (hS : Sh S)  (k1 : Int32) (k2 : Int32) (I : gI) {Q : gO → gS → gI → gJ → Prop} :
    ∀ (n : Nat) (v3 : Int32) (res : (Unit) ⊕ (Int32)), mX3_mayMove_24 k1 k2 I n v3 = some res → (res = Sum.inl () → Wp RX3 cX3_mayMove 5 (some .boolean) [] hF d 0 0 91 [] [] S I J Q) → (∀ (r : Int32), res = Sum.inr r → Q (.inl (some (.int r))) S I J) → Wp RX3 cX3_mayMove 5 (some .boolean) [] hF d 0 0 24 [(0, .ref 43), (1, .int k1), (2, .int k2), (3, .int v3)] [] S I J Q := by
  intro n
  induction n with
  | zero => intro v3 res h; exact nso h
  | succ n ih =>
    intro v3 res h kx kr
    rw [mX3_mayMove_24] at h
    refine wp_iload_n dX3_mayMove_24 rfl rfl ?_
    refine wp_aload_n dX3_mayMove_25 rfl rfl ?_
    refine wp_getR dX3_mayMove_26 flX3_28 rfl (sk43 hS) (sn43 hS) (sr43_0 hS) ?_
    refine wp_getI dX3_mayMove_29 flX3_107 rfl (sk2 hS) (sn2 hS) ?_
    refine wp_icmp_ge (tgt := 91) dX3_mayMove_32 (by decide) (fun hc4 => ?_) (fun hc4 => ?_)
    · have h := ite_t hc4 h
      exact wp_pick (ks := []) rfl (kx (sji h).symm)
    · have h := ite_f hc4 h
      refine wp_aload_n dX3_mayMove_35 rfl rfl ?_
      refine wp_getR dX3_mayMove_36 flX3_18 rfl (sk43 hS) (sn43 hS) (sr43_5 hS) ?_
      refine wp_iload_n dX3_mayMove_39 rfl rfl ?_
      obtain ⟨hb5, h⟩ := ck_inv h
      refine wp_iald dX3_mayMove_40 (sk47 hS) (sn47 hS) hb5 ?_
      refine wp_aload_n dX3_mayMove_41 rfl rfl ?_
      refine wp_getR dX3_mayMove_42 flX3_41 rfl (sk43 hS) (sn43 hS) (sr43_2 hS) ?_
      refine wp_getR dX3_mayMove_45 flX3_69 rfl (sk36 hS) (sn36 hS) (sr36_1 hS) ?_
      refine wp_iload_n dX3_mayMove_48 rfl rfl ?_
      obtain ⟨hb6, h⟩ := ck_inv h
      refine wp_iald dX3_mayMove_49 (sk38 hS) (sn38 hS) hb6 ?_
      refine wp_iadd dX3_mayMove_50 ?_
      refine wp_aload_n dX3_mayMove_51 rfl rfl ?_
      refine wp_getR dX3_mayMove_52 flX3_28 rfl (sk43 hS) (sn43 hS) (sr43_0 hS) ?_
      refine wp_getR dX3_mayMove_55 flX3_110 rfl (sk2 hS) (sn2 hS) (sr2_6 hS) ?_
      refine wp_iload_n dX3_mayMove_58 rfl rfl ?_
      refine wp_iald dX3_mayMove_59 (sk6 hS) (sn6 hS) hb5 ?_
      obtain ⟨x7, hh11, h⟩ := obi h
      have hJ : Wp RX3 cX3_mayMove 5 (some .boolean) [] hF d 0 0 68 [(0, .ref 43), (1, .int k1), (2, .int k2), (3, .int v3)] [.int x7] S I J Q := by
        refine wp_istore (ls' := [(4, .int x7), (0, .ref 43), (1, .int k1), (2, .int k2), (3, .int v3)]) dX3_mayMove_68 (Nat.le_of_ble_eq_true rfl) rfl ?_
        refine wp_iload dX3_mayMove_70 rfl ?_
        refine wp_if_eq (tgt := 85) dX3_mayMove_72 (by decide) (fun hc9 => ?_) (fun hc9 => ?_)
        · have h := ite_t hc9 h
          refine wp_iinc (v := 1) (ls' := [(3, .int (v3 + 1)), (4, .int x7), (0, .ref 43), (1, .int k1), (2, .int k2)]) dX3_mayMove_85 rfl (by decide) (Nat.le_of_ble_eq_true rfl) rfl ?_
          refine wp_goto (tgt := 24) dX3_mayMove_88 (by decide) ?_
          exact wp_pick (ks := [2, 3, 4, 0]) rfl (ih _ _ h kx kr)
        · have h := ite_f hc9 h
          refine wp_iload_n dX3_mayMove_75 rfl rfl ?_
          refine wp_iload_n dX3_mayMove_76 rfl rfl ?_
          refine wp_iushr dX3_mayMove_77 ?_
          refine wp_iconst (v := 1) dX3_mayMove_78 (by decide) ?_
          refine wp_iand dX3_mayMove_79 ?_
          refine wp_if_eq (tgt := 85) dX3_mayMove_80 (by decide) (fun hc10 => ?_) (fun hc10 => ?_)
          · have h := ite_t hc10 h
            refine wp_iinc (v := 1) (ls' := [(3, .int (v3 + 1)), (4, .int x7), (0, .ref 43), (1, .int k1), (2, .int k2)]) dX3_mayMove_85 rfl (by decide) (Nat.le_of_ble_eq_true rfl) rfl ?_
            refine wp_goto (tgt := 24) dX3_mayMove_88 (by decide) ?_
            exact wp_pick (ks := [2, 3, 4, 0]) rfl (ih _ _ h kx kr)
          · have h := ite_f hc10 h
            refine wp_iconst (v := 0) dX3_mayMove_83 (by decide) ?_
            exact wp_zret dX3_mayMove_84 rfl (by decide) (kr _ (sji h).symm)
      clear h
      have h := hh11
      clear hh11
      refine wp_icmp_le (tgt := 67) dX3_mayMove_60 (by decide) (fun hc8 => ?_) (fun hc8 => ?_)
      · have h := ite_t hc8 h
        refine wp_iconst (v := 0) dX3_mayMove_67 (by decide) ?_
        cases h
        exact wp_pick (ks := [0, 1, 2, 3]) rfl hJ
      · have h := ite_f hc8 h
        refine wp_iconst (v := 1) dX3_mayMove_63 (by decide) ?_
        refine wp_goto (tgt := 68) dX3_mayMove_64 (by decide) ?_
        cases h
        exact wp_pick (ks := [0, 1, 2, 3]) rfl hJ
set_option maxHeartbeats 4000000 in
set_option maxRecDepth 100000 in
theorem ct_X3_mayMove (N : Nat) (d : Nat) (hd : 0 ≤ d) {S : gS} {J : gJ} (hS : Sh S)  {a2 : Int32} {I : gI} {r : Int32} (h : mX3_mayMove N a2 I = some r) : Ct yX3_mayMove (wsY yX3_mayMove cX3_mayMove 5 (some .boolean)) d 0 0 [.ref 43, .int a2] S I J (qE (.inl (some (.int r))) S I J) := by
  refine Ct.of hF (fun _ _ _ _ _ => trivial) (by decide +kernel) (Nat.le_of_ble_eq_true rfl) ⟨Or.inl (sn43 hS), trivial, trivial⟩ ?_
  show Wp RX3 cX3_mayMove 5 (some .boolean) [] hF d 0 0 0 [(0, .ref 43), (1, .int a2)] [] S I J _
  unfold mX3_mayMove at h
  refine wp_aload_n dX3_mayMove_0 rfl rfl ?_
  refine wp_getR dX3_mayMove_1 flX3_12 rfl (sk43 hS) (sn43 hS) (sr43_3 hS) ?_
  refine wp_getR dX3_mayMove_4 flX3_48 rfl (sk44 hS) (sn44 hS) (sr44_0 hS) ?_
  refine wp_iload_n dX3_mayMove_7 rfl rfl ?_
  obtain ⟨hb1, h⟩ := ck_inv h
  refine wp_iald dX3_mayMove_8 (sk45 hS) (sn45 hS) hb1 ?_
  refine wp_aload_n dX3_mayMove_9 rfl rfl ?_
  refine wp_getR dX3_mayMove_10 flX3_41 rfl (sk43 hS) (sn43 hS) (sr43_2 hS) ?_
  refine wp_getR dX3_mayMove_13 flX3_48 rfl (sk36 hS) (sn36 hS) (sr36_0 hS) ?_
  refine wp_iload_n dX3_mayMove_16 rfl rfl ?_
  refine wp_iald dX3_mayMove_17 (sk37 hS) (sn37 hS) hb1 ?_
  refine wp_iconst (v := (-1)) dX3_mayMove_18 (by decide) ?_
  refine wp_ixor dX3_mayMove_19 ?_
  refine wp_iand dX3_mayMove_20 ?_
  obtain ⟨x2, hx3, h⟩ := nm_inv h
  refine wp_topi hx3 ?_
  refine wp_istore_n (ls' := [(2, .int x2), (0, .ref 43), (1, .int a2)]) dX3_mayMove_21 rfl (Nat.le_of_ble_eq_true rfl) rfl ?_
  refine wp_iconst (v := 0) dX3_mayMove_22 (by decide) ?_
  refine wp_istore_n (ls' := [(3, .int 0), (2, .int x2), (0, .ref 43), (1, .int a2)]) dX3_mayMove_23 rfl (Nat.le_of_ble_eq_true rfl) rfl ?_
  rcases lbi h with ⟨⟨⟩, hL912, h⟩ | ⟨r14, hL912, h⟩
  · refine wp_pick (ks := [2, 3, 1, 0]) rfl (wX3_mayMove_24 d hd hS  a2 x2 I N 0 _ hL912 (fun  e13 => ?_) (fun _ e9 => by cases e9))
    cases e13
    refine wp_iconst (v := 1) dX3_mayMove_91 (by decide) ?_
    exact wp_zret dX3_mayMove_92 rfl (by decide) (by obtain rfl := sji h; exact ⟨rfl, rfl, rfl, rfl⟩)
  · refine wp_pick (ks := [2, 3, 1, 0]) rfl (wX3_mayMove_24 d hd hS  a2 x2 I N 0 _ hL912 (fun  e9 => by cases e9) (fun _ e13 => ?_))
    cases e13
    exact (by obtain rfl := sji h; exact ⟨rfl, rfl, rfl, rfl⟩)
def mX3_moveRest_29 (N : Nat) (rc : Int32 → Int32 → gI → Option (Int32 × gI)) (k1 : Int32) (k2 : Int32) : Nat → Int32 → gI → Option ((gI) ⊕ (Int32 × gI))
  | 0, _, _ => none
  | n + 1, v3, I => if (I 2 2) ≤ v3 then (some (.inl I)) else (if ((ushr k1 v3) &&& 1) = 0 then (mX3_moveRest_29 N rc k1 k2 n (v3 + 1) I) else (Option.bind (mX3_mayMove N v3 I) (fun r7 => if r7 = 0 then (mX3_moveRest_29 N rc k1 k2 n (v3 + 1) I) else (ck v3 9 (nm ((I 45 v3.toNatClampNeg) &&& ((I 37 v3.toNatClampNeg) ^^^ (-1))) (fun x11 => nm ((I 37 v3.toNatClampNeg) &&& ((I 45 v3.toNatClampNeg) ^^^ (-1))) (fun x13 => Option.bind (mX3_book N x11 (I 38 v3.toNatClampNeg) I) (fun I15 => Option.bind (mX3_book N x13 (-(I15 38 v3.toNatClampNeg)) I15) (fun I17 => Option.bind (rc (k1 &&& (((1 : Int32) <<< (v3 &&& 31)) ^^^ (-1))) (k2 + 1) I17) (fun (r19, I20) => if r19 = 0 then (Option.bind (mX3_book N x11 (-(I20 38 v3.toNatClampNeg)) I20) (fun I23 => Option.bind (mX3_book N x13 (I23 38 v3.toNatClampNeg) I23) (fun I25 => mX3_moveRest_29 N rc k1 k2 n (v3 + 1) I25))) else (ck k2 9 (some (.inr (1, upd2 I20 48 k2.toNatClampNeg v3))))))))))))))
def mX3_moveRest (N : Nat) : Nat → Int32 → Int32 → gI → Option (Int32 × gI)
  | 0, _, _, _ => none
  | D + 1, a2, a3, I => if a2 = 0 then (some (1, I)) else (if 9 ≤ a3 then (some (0, I)) else (ck a2 512 (if (I 49 a2.toNatClampNeg) = (I 43 8) then (some (0, I)) else (lbind (mX3_moveRest_29 N (mX3_moveRest N D) a2 a3 N 0 I) (fun I28 => ck a2 512 (some (0, upd2 I28 49 a2.toNatClampNeg (I28 43 8)))) (fun (r32, I33) => some (r32, I33))))))
set_option maxHeartbeats 4000000 in
set_option maxRecDepth 100000 in
theorem wX3_moveRest_29 (N : Nat) (d : Nat) (hd : 1 ≤ d) {S : gS} {J : gJ} (hS : Sh S)  (rc : Int32 → Int32 → gI → Option (Int32 × gI)) (e : Nat) (he : e + 1 ≤ d) (hrc : ∀ {a2 : Int32} {a3 : Int32} {I : gI} {r : Int32 × gI}, rc a2 a3 I = some r → Ct yX3_moveRest (wsY yX3_moveRest cX3_moveRest 6 (some .boolean)) e 0 0 [.ref 43, .int a2, .int a3] S I J (qE (.inl (some (.int r.1))) S r.2 J)) (k1 : Int32) (k2 : Int32) {Q : gO → gS → gI → gJ → Prop} :
    ∀ (n : Nat) (v3 : Int32) (I : gI) (res : (gI) ⊕ (Int32 × gI)), mX3_moveRest_29 N rc k1 k2 n v3 I = some res → (∀ (O : gI), res = Sum.inl O → Wp RX3 cX3_moveRest 6 (some .boolean) [] hF d 0 0 196 [(0, .ref 43), (1, .int k1)] [] S O J Q) → (∀ (r : Int32) (O : gI), res = Sum.inr (r, O) → Q (.inl (some (.int r))) S O J) → Wp RX3 cX3_moveRest 6 (some .boolean) [] hF d 0 0 29 [(0, .ref 43), (1, .int k1), (2, .int k2), (3, .int v3)] [] S I J Q := by
  intro n
  induction n with
  | zero => intro v3 I res h; exact nso h
  | succ n ih =>
    intro v3 I res h kx kr
    rw [mX3_moveRest_29] at h
    refine wp_iload_n dX3_moveRest_29 rfl rfl ?_
    refine wp_aload_n dX3_moveRest_30 rfl rfl ?_
    refine wp_getR dX3_moveRest_31 flX3_28 rfl (sk43 hS) (sn43 hS) (sr43_0 hS) ?_
    refine wp_getI dX3_moveRest_34 flX3_59 rfl (sk2 hS) (sn2 hS) ?_
    refine wp_icmp_ge (tgt := 196) dX3_moveRest_37 (by decide) (fun hc5 => ?_) (fun hc5 => ?_)
    · have h := ite_t hc5 h
      exact wp_pick (ks := [0, 1]) rfl (kx _ (sji h).symm)
    · have h := ite_f hc5 h
      refine wp_iload_n dX3_moveRest_40 rfl rfl ?_
      refine wp_iload_n dX3_moveRest_41 rfl rfl ?_
      refine wp_iushr dX3_moveRest_42 ?_
      refine wp_iconst (v := 1) dX3_moveRest_43 (by decide) ?_
      refine wp_iand dX3_moveRest_44 ?_
      refine wp_if_eq (tgt := 190) dX3_moveRest_45 (by decide) (fun hc6 => ?_) (fun hc6 => ?_)
      · have h := ite_t hc6 h
        refine wp_iinc (v := 1) (ls' := [(3, .int (v3 + 1)), (0, .ref 43), (1, .int k1), (2, .int k2)]) dX3_moveRest_190 rfl (by decide) (Nat.le_of_ble_eq_true rfl) rfl ?_
        refine wp_goto (tgt := 29) dX3_moveRest_193 (by decide) ?_
        exact wp_pick (ks := [1, 2, 3, 0]) rfl (ih _ _ _ h kx kr)
      · have h := ite_f hc6 h
        refine wp_aload_n dX3_moveRest_48 rfl rfl ?_
        refine wp_iload_n dX3_moveRest_49 rfl rfl ?_
        obtain ⟨r7, hF8, h⟩ := obi h
        refine wp_callVi (ci := 3) (As := [.int v3]) dX3_moveRest_50 lbX3_mayMove mlX3_121 imX3_mayMove seX3_mayMove vc3 (ct_X3_mayMove N 0 (Nat.le_refl _) hS  hF8) rfl rfl (Nat.le_trans (by decide) hd) (sk43 hS) (sn43 hS) (Nat.le_of_ble_eq_true rfl) (fun _ => ?_)
        refine wp_if_eq (tgt := 190) dX3_moveRest_53 (by decide) (fun hc9 => ?_) (fun hc9 => ?_)
        · have h := ite_t hc9 h
          refine wp_iinc (v := 1) (ls' := [(3, .int (v3 + 1)), (0, .ref 43), (1, .int k1), (2, .int k2)]) dX3_moveRest_190 rfl (by decide) (Nat.le_of_ble_eq_true rfl) rfl ?_
          refine wp_goto (tgt := 29) dX3_moveRest_193 (by decide) ?_
          exact wp_pick (ks := [1, 2, 3, 0]) rfl (ih _ _ _ h kx kr)
        · have h := ite_f hc9 h
          refine wp_aload_n dX3_moveRest_56 rfl rfl ?_
          refine wp_getR dX3_moveRest_57 flX3_12 rfl (sk43 hS) (sn43 hS) (sr43_3 hS) ?_
          refine wp_getR dX3_moveRest_60 flX3_48 rfl (sk44 hS) (sn44 hS) (sr44_0 hS) ?_
          refine wp_iload_n dX3_moveRest_63 rfl rfl ?_
          obtain ⟨hb10, h⟩ := ck_inv h
          refine wp_iald dX3_moveRest_64 (sk45 hS) (sn45 hS) hb10 ?_
          refine wp_aload_n dX3_moveRest_65 rfl rfl ?_
          refine wp_getR dX3_moveRest_66 flX3_41 rfl (sk43 hS) (sn43 hS) (sr43_2 hS) ?_
          refine wp_getR dX3_moveRest_69 flX3_48 rfl (sk36 hS) (sn36 hS) (sr36_0 hS) ?_
          refine wp_iload_n dX3_moveRest_72 rfl rfl ?_
          refine wp_iald dX3_moveRest_73 (sk37 hS) (sn37 hS) hb10 ?_
          refine wp_iconst (v := (-1)) dX3_moveRest_74 (by decide) ?_
          refine wp_ixor dX3_moveRest_75 ?_
          refine wp_iand dX3_moveRest_76 ?_
          obtain ⟨x11, hx12, h⟩ := nm_inv h
          refine wp_topi hx12 ?_
          refine wp_istore (ls' := [(4, .int x11), (0, .ref 43), (1, .int k1), (2, .int k2), (3, .int v3)]) dX3_moveRest_77 (Nat.le_of_ble_eq_true rfl) rfl ?_
          refine wp_aload_n dX3_moveRest_79 rfl rfl ?_
          refine wp_getR dX3_moveRest_80 flX3_41 rfl (sk43 hS) (sn43 hS) (sr43_2 hS) ?_
          refine wp_getR dX3_moveRest_83 flX3_48 rfl (sk36 hS) (sn36 hS) (sr36_0 hS) ?_
          refine wp_iload_n dX3_moveRest_86 rfl rfl ?_
          refine wp_iald dX3_moveRest_87 (sk37 hS) (sn37 hS) hb10 ?_
          refine wp_aload_n dX3_moveRest_88 rfl rfl ?_
          refine wp_getR dX3_moveRest_89 flX3_12 rfl (sk43 hS) (sn43 hS) (sr43_3 hS) ?_
          refine wp_getR dX3_moveRest_92 flX3_48 rfl (sk44 hS) (sn44 hS) (sr44_0 hS) ?_
          refine wp_iload_n dX3_moveRest_95 rfl rfl ?_
          refine wp_iald dX3_moveRest_96 (sk45 hS) (sn45 hS) hb10 ?_
          refine wp_iconst (v := (-1)) dX3_moveRest_97 (by decide) ?_
          refine wp_ixor dX3_moveRest_98 ?_
          refine wp_iand dX3_moveRest_99 ?_
          obtain ⟨x13, hx14, h⟩ := nm_inv h
          refine wp_topi hx14 ?_
          refine wp_istore (ls' := [(5, .int x13), (4, .int x11), (0, .ref 43), (1, .int k1), (2, .int k2), (3, .int v3)]) dX3_moveRest_100 (Nat.le_of_ble_eq_true rfl) rfl ?_
          refine wp_aload_n dX3_moveRest_102 rfl rfl ?_
          refine wp_iload dX3_moveRest_103 rfl ?_
          refine wp_aload_n dX3_moveRest_105 rfl rfl ?_
          refine wp_getR dX3_moveRest_106 flX3_41 rfl (sk43 hS) (sn43 hS) (sr43_2 hS) ?_
          refine wp_getR dX3_moveRest_109 flX3_69 rfl (sk36 hS) (sn36 hS) (sr36_1 hS) ?_
          refine wp_iload_n dX3_moveRest_112 rfl rfl ?_
          refine wp_iald dX3_moveRest_113 (sk38 hS) (sn38 hS) hb10 ?_
          obtain ⟨I15, hF16, h⟩ := obi h
          refine wp_callVv (ci := 3) (As := [.int x11, .int (I 38 v3.toNatClampNeg)]) dX3_moveRest_114 lbX3_book mlX3_103 imX3_book seX3_book vc3 (ct_X3_book N 0 (Nat.le_refl _) hS  hF16) rfl rfl (Nat.le_trans (by decide) hd) (sk43 hS) (sn43 hS) (Nat.le_of_ble_eq_true rfl) (fun _ => ?_)
          refine wp_aload_n dX3_moveRest_117 rfl rfl ?_
          refine wp_iload dX3_moveRest_118 rfl ?_
          refine wp_aload_n dX3_moveRest_120 rfl rfl ?_
          refine wp_getR dX3_moveRest_121 flX3_41 rfl (sk43 hS) (sn43 hS) (sr43_2 hS) ?_
          refine wp_getR dX3_moveRest_124 flX3_69 rfl (sk36 hS) (sn36 hS) (sr36_1 hS) ?_
          refine wp_iload_n dX3_moveRest_127 rfl rfl ?_
          refine wp_iald dX3_moveRest_128 (sk38 hS) (sn38 hS) hb10 ?_
          refine wp_ineg dX3_moveRest_129 ?_
          obtain ⟨I17, hF18, h⟩ := obi h
          refine wp_callVv (ci := 3) (As := [.int x13, .int (-(I15 38 v3.toNatClampNeg))]) dX3_moveRest_130 lbX3_book mlX3_103 imX3_book seX3_book vc3 (ct_X3_book N 0 (Nat.le_refl _) hS  hF18) rfl rfl (Nat.le_trans (by decide) hd) (sk43 hS) (sn43 hS) (Nat.le_of_ble_eq_true rfl) (fun _ => ?_)
          refine wp_aload_n dX3_moveRest_133 rfl rfl ?_
          refine wp_iload_n dX3_moveRest_134 rfl rfl ?_
          refine wp_iconst (v := 1) dX3_moveRest_135 (by decide) ?_
          refine wp_iload_n dX3_moveRest_136 rfl rfl ?_
          refine wp_ishl dX3_moveRest_137 ?_
          refine wp_iconst (v := (-1)) dX3_moveRest_138 (by decide) ?_
          refine wp_ixor dX3_moveRest_139 ?_
          refine wp_iand dX3_moveRest_140 ?_
          refine wp_iload_n dX3_moveRest_141 rfl rfl ?_
          refine wp_iconst (v := 1) dX3_moveRest_142 (by decide) ?_
          refine wp_iadd dX3_moveRest_143 ?_
          obtain ⟨⟨r19, I20⟩, hF21, h⟩ := obi h
          refine wp_callVi (ci := 3) (As := [.int (k1 &&& (((1 : Int32) <<< (v3 &&& 31)) ^^^ (-1))), .int (k2 + 1)]) dX3_moveRest_144 lbX3_moveRest mlX3_116 imX3_moveRest seX3_moveRest vc3 (hrc hF21) rfl rfl he (sk43 hS) (sn43 hS) (Nat.le_of_ble_eq_true rfl) (fun _ => ?_)
          refine wp_if_eq (tgt := 159) dX3_moveRest_147 (by decide) (fun hc22 => ?_) (fun hc22 => ?_)
          · have h := ite_t hc22 h
            refine wp_aload_n dX3_moveRest_159 rfl rfl ?_
            refine wp_iload dX3_moveRest_160 rfl ?_
            refine wp_aload_n dX3_moveRest_162 rfl rfl ?_
            refine wp_getR dX3_moveRest_163 flX3_41 rfl (sk43 hS) (sn43 hS) (sr43_2 hS) ?_
            refine wp_getR dX3_moveRest_166 flX3_69 rfl (sk36 hS) (sn36 hS) (sr36_1 hS) ?_
            refine wp_iload_n dX3_moveRest_169 rfl rfl ?_
            refine wp_iald dX3_moveRest_170 (sk38 hS) (sn38 hS) hb10 ?_
            refine wp_ineg dX3_moveRest_171 ?_
            obtain ⟨I23, hF24, h⟩ := obi h
            refine wp_callVv (ci := 3) (As := [.int x11, .int (-(I20 38 v3.toNatClampNeg))]) dX3_moveRest_172 lbX3_book mlX3_103 imX3_book seX3_book vc3 (ct_X3_book N 0 (Nat.le_refl _) hS  hF24) rfl rfl (Nat.le_trans (by decide) hd) (sk43 hS) (sn43 hS) (Nat.le_of_ble_eq_true rfl) (fun _ => ?_)
            refine wp_aload_n dX3_moveRest_175 rfl rfl ?_
            refine wp_iload dX3_moveRest_176 rfl ?_
            refine wp_aload_n dX3_moveRest_178 rfl rfl ?_
            refine wp_getR dX3_moveRest_179 flX3_41 rfl (sk43 hS) (sn43 hS) (sr43_2 hS) ?_
            refine wp_getR dX3_moveRest_182 flX3_69 rfl (sk36 hS) (sn36 hS) (sr36_1 hS) ?_
            refine wp_iload_n dX3_moveRest_185 rfl rfl ?_
            refine wp_iald dX3_moveRest_186 (sk38 hS) (sn38 hS) hb10 ?_
            obtain ⟨I25, hF26, h⟩ := obi h
            refine wp_callVv (ci := 3) (As := [.int x13, .int (I23 38 v3.toNatClampNeg)]) dX3_moveRest_187 lbX3_book mlX3_103 imX3_book seX3_book vc3 (ct_X3_book N 0 (Nat.le_refl _) hS  hF26) rfl rfl (Nat.le_trans (by decide) hd) (sk43 hS) (sn43 hS) (Nat.le_of_ble_eq_true rfl) (fun _ => ?_)
            refine wp_iinc (v := 1) (ls' := [(3, .int (v3 + 1)), (5, .int x13), (4, .int x11), (0, .ref 43), (1, .int k1), (2, .int k2)]) dX3_moveRest_190 rfl (by decide) (Nat.le_of_ble_eq_true rfl) rfl ?_
            refine wp_goto (tgt := 29) dX3_moveRest_193 (by decide) ?_
            exact wp_pick (ks := [3, 4, 5, 0]) rfl (ih _ _ _ h kx kr)
          · have h := ite_f hc22 h
            refine wp_aload_n dX3_moveRest_150 rfl rfl ?_
            refine wp_getR dX3_moveRest_151 flX3_22 rfl (sk43 hS) (sn43 hS) (sr43_6 hS) ?_
            refine wp_iload_n dX3_moveRest_154 rfl rfl ?_
            refine wp_iload_n dX3_moveRest_155 rfl rfl ?_
            obtain ⟨hb27, h⟩ := ck_inv h
            refine wp_iast dX3_moveRest_156 (sk48 hS) (sn48 hS) hb27 ?_
            refine wp_iconst (v := 1) dX3_moveRest_157 (by decide) ?_
            exact wp_zret dX3_moveRest_158 rfl (by decide) (kr _ _ (sji h).symm)
set_option maxHeartbeats 4000000 in
set_option maxRecDepth 100000 in
theorem ct_X3_moveRest (N : Nat) {S : gS} {J : gJ} (hS : Sh S)  : ∀ (D d : Nat), 1 + D ≤ d → ∀ {a2 : Int32} {a3 : Int32} {I : gI} {r : Int32 × gI}, mX3_moveRest N D a2 a3 I = some r → Ct yX3_moveRest (wsY yX3_moveRest cX3_moveRest 6 (some .boolean)) d 0 0 [.ref 43, .int a2, .int a3] S I J (qE (.inl (some (.int r.1))) S r.2 J) := by
  intro D
  induction D with
  | zero => intro d hd0 a2 a3 I r h; exact nso h
  | succ D ih =>
    intro d hd0 a2 a3 I r h
    have hd : 1 ≤ d := by omega
    have he : (1 + D) + 1 ≤ d := by omega
    have hrc := @ih (1 + D) (Nat.le_refl _)
    refine Ct.of hF (fun _ _ _ _ _ => trivial) (by decide +kernel) (Nat.le_of_ble_eq_true rfl) ⟨Or.inl (sn43 hS), trivial, trivial, trivial⟩ ?_
    show Wp RX3 cX3_moveRest 6 (some .boolean) [] hF d 0 0 0 [(0, .ref 43), (1, .int a2), (2, .int a3)] [] S I J _
    rw [mX3_moveRest] at h
    refine wp_iload_n dX3_moveRest_0 rfl rfl ?_
    refine wp_if_ne (tgt := 6) dX3_moveRest_1 (by decide) (fun hc1 => ?_) (fun hc1 => ?_)
    · have h := ite_f hc1 h
      refine wp_iload_n dX3_moveRest_6 rfl rfl ?_
      refine wp_bipush (v := 9) dX3_moveRest_7 (by decide) ?_
      refine wp_icmp_ge (tgt := 25) dX3_moveRest_9 (by decide) (fun hc2 => ?_) (fun hc2 => ?_)
      · have h := ite_t hc2 h
        refine wp_iconst (v := 0) dX3_moveRest_25 (by decide) ?_
        exact wp_zret dX3_moveRest_26 rfl (by decide) (by obtain rfl := sji h; exact ⟨rfl, rfl, rfl, rfl⟩)
      · have h := ite_f hc2 h
        refine wp_aload_n dX3_moveRest_12 rfl rfl ?_
        refine wp_getR dX3_moveRest_13 flX3_25 rfl (sk43 hS) (sn43 hS) (sr43_7 hS) ?_
        refine wp_iload_n dX3_moveRest_16 rfl rfl ?_
        obtain ⟨hb3, h⟩ := ck_inv h
        refine wp_iald dX3_moveRest_17 (sk49 hS) (sn49 hS) hb3 ?_
        refine wp_aload_n dX3_moveRest_18 rfl rfl ?_
        refine wp_getI dX3_moveRest_19 flX3_113 rfl (sk43 hS) (sn43 hS) ?_
        refine wp_icmp_ne (tgt := 27) dX3_moveRest_22 (by decide) (fun hc4 => ?_) (fun hc4 => ?_)
        · have h := ite_f hc4 h
          refine wp_iconst (v := 0) dX3_moveRest_27 (by decide) ?_
          refine wp_istore_n (ls' := [(3, .int 0), (0, .ref 43), (1, .int a2), (2, .int a3)]) dX3_moveRest_28 rfl (Nat.le_of_ble_eq_true rfl) rfl ?_
          rcases lbi h with ⟨I28, hL930, h⟩ | ⟨⟨r32, I33⟩, hL930, h⟩
          · refine wp_pick (ks := [1, 2, 3, 0]) rfl (wX3_moveRest_29 N d hd hS _ _ he hrc a2 a3 N 0 I _ hL930 (fun _ e31 => ?_) (fun _ _ e9 => by cases e9))
            cases e31
            refine wp_aload_n dX3_moveRest_196 rfl rfl ?_
            refine wp_getR dX3_moveRest_197 flX3_25 rfl (sk43 hS) (sn43 hS) (sr43_7 hS) ?_
            refine wp_iload_n dX3_moveRest_200 rfl rfl ?_
            refine wp_aload_n dX3_moveRest_201 rfl rfl ?_
            refine wp_getI dX3_moveRest_202 flX3_113 rfl (sk43 hS) (sn43 hS) ?_
            obtain ⟨hb29, h⟩ := ck_inv h
            refine wp_iast dX3_moveRest_205 (sk49 hS) (sn49 hS) hb29 ?_
            refine wp_iconst (v := 0) dX3_moveRest_206 (by decide) ?_
            exact wp_zret dX3_moveRest_207 rfl (by decide) (by obtain rfl := sji h; exact ⟨rfl, rfl, rfl, rfl⟩)
          · refine wp_pick (ks := [1, 2, 3, 0]) rfl (wX3_moveRest_29 N d hd hS _ _ he hrc a2 a3 N 0 I _ hL930 (fun _ e9 => by cases e9) (fun _ _ e31 => ?_))
            cases e31
            exact (by obtain rfl := sji h; exact ⟨rfl, rfl, rfl, rfl⟩)
        · have h := ite_t hc4 h
          refine wp_iconst (v := 0) dX3_moveRest_25 (by decide) ?_
          exact wp_zret dX3_moveRest_26 rfl (by decide) (by obtain rfl := sji h; exact ⟨rfl, rfl, rfl, rfl⟩)
    · have h := ite_t hc1 h
      refine wp_iconst (v := 1) dX3_moveRest_4 (by decide) ?_
      exact wp_zret dX3_moveRest_5 rfl (by decide) (by obtain rfl := sji h; exact ⟨rfl, rfl, rfl, rfl⟩)
def mX3_canMove (N : Nat) (a2 : Int32) (a3 : Int32) (I : gI) : Option (Int32 × gI) := Option.bind (mX3_countTaken N a3 (upd2 I 43 8 ((I 43 8) + 1))) (fun I1 => Option.bind (mX3_moveRest N 12 a2 0 I1) (fun (r3, I4) => zo r3 (some (r3, I4))))
set_option maxHeartbeats 4000000 in
set_option maxRecDepth 100000 in
theorem ct_X3_canMove (N : Nat) (d : Nat) (hd : 14 ≤ d) {S : gS} {J : gJ} (hS : Sh S)  {a2 : Int32} {a3 : Int32} {I : gI} {r : Int32 × gI} (h : mX3_canMove N a2 a3 I = some r) : Ct yX3_canMove (wsY yX3_canMove cX3_canMove 3 (some .boolean)) d 0 0 [.ref 43, .int a2, .int a3] S I J (qE (.inl (some (.int r.1))) S r.2 J) := by
  refine Ct.of hF (fun _ _ _ _ _ => trivial) (by decide +kernel) (Nat.le_of_ble_eq_true rfl) ⟨Or.inl (sn43 hS), trivial, trivial, trivial⟩ ?_
  show Wp RX3 cX3_canMove 3 (some .boolean) [] hF d 0 0 0 [(0, .ref 43), (1, .int a2), (2, .int a3)] [] S I J _
  unfold mX3_canMove at h
  refine wp_aload_n dX3_canMove_0 rfl rfl ?_
  refine wp_dup dX3_canMove_1 rfl ?_
  refine wp_getI dX3_canMove_2 flX3_113 rfl (sk43 hS) (sn43 hS) ?_
  refine wp_iconst (v := 1) dX3_canMove_5 (by decide) ?_
  refine wp_iadd dX3_canMove_6 ?_
  refine wp_putI dX3_canMove_7 (Or.inl fpX3_113) rfl ⟨rfl, rfl⟩ (sk43 hS) (sn43 hS) ?_
  refine wp_aload_n dX3_canMove_10 rfl rfl ?_
  refine wp_iload_n dX3_canMove_11 rfl rfl ?_
  obtain ⟨I1, hF2, h⟩ := obi h
  refine wp_callVv (ci := 3) (As := [.int a3]) dX3_canMove_12 lbX3_countTaken mlX3_100 imX3_countTaken seX3_countTaken vc3 (ct_X3_countTaken N 2 (Nat.le_refl _) hS  hF2) rfl rfl (Nat.le_trans (by decide) hd) (sk43 hS) (sn43 hS) (Nat.le_of_ble_eq_true rfl) (fun _ => ?_)
  refine wp_aload_n dX3_canMove_15 rfl rfl ?_
  refine wp_iload_n dX3_canMove_16 rfl rfl ?_
  refine wp_iconst (v := 0) dX3_canMove_17 (by decide) ?_
  obtain ⟨⟨r3, I4⟩, hF5, h⟩ := obi h
  refine wp_callVi (ci := 3) (As := [.int a2, .int 0]) dX3_canMove_18 lbX3_moveRest mlX3_116 imX3_moveRest seX3_moveRest vc3 (ct_X3_moveRest N hS  12 13 (Nat.le_refl _) hF5) rfl rfl (Nat.le_trans (by decide) hd) (sk43 hS) (sn43 hS) (Nat.le_of_ble_eq_true rfl) (fun _ => ?_)
  obtain ⟨hz6, h⟩ := zo_inv h
  exact wp_zret dX3_canMove_21 rfl hz6 (by obtain rfl := sji h; exact ⟨rfl, rfl, rfl, rfl⟩)
def mX3_inRow (N : Nat) (a2 : Int32) (I : gI) : Option (Int32 × gI) := Option.bind (mX3_movers N I) (fun r1 => Option.bind (mJ6_bitCount_0f7a4 r1 I) (fun r3 => if r3 ≤ a2 then (some ((-1), I)) else (if 9 ≤ a2 then (some ((-1), I)) else (Option.bind (mX3_canMove N r1 0 I) (fun (r7, I8) => if r7 = 0 then (some ((-1), I8)) else (ck a2 9 (some (I8 48 a2.toNatClampNeg, I8))))))))
set_option maxHeartbeats 4000000 in
set_option maxRecDepth 100000 in
theorem ct_X3_inRow (N : Nat) (d : Nat) (hd : 15 ≤ d) {S : gS} {J : gJ} (hS : Sh S)  {a2 : Int32} {I : gI} {r : Int32 × gI} (h : mX3_inRow N a2 I = some r) : Ct yX3_inRow (wsY yX3_inRow cX3_inRow 3 (some .int)) d 0 0 [.ref 43, .int a2] S I J (qE (.inl (some (.int r.1))) S r.2 J) := by
  refine Ct.of hF (fun _ _ _ _ _ => trivial) (by decide +kernel) (Nat.le_of_ble_eq_true rfl) ⟨Or.inl (sn43 hS), trivial, trivial⟩ ?_
  show Wp RX3 cX3_inRow 3 (some .int) [] hF d 0 0 0 [(0, .ref 43), (1, .int a2)] [] S I J _
  unfold mX3_inRow at h
  refine wp_aload_n dX3_inRow_0 rfl rfl ?_
  obtain ⟨r1, hF2, h⟩ := obi h
  refine wp_callVi (ci := 3) (As := []) dX3_inRow_1 lbX3_movers mlX3_83 imX3_movers seX3_movers vc3 (ct_X3_movers N 0 (Nat.le_refl _) hS  hF2) rfl rfl (Nat.le_trans (by decide) hd) (sk43 hS) (sn43 hS) (Nat.le_of_ble_eq_true rfl) (fun _ => ?_)
  refine wp_istore_n (ls' := [(2, .int r1), (0, .ref 43), (1, .int a2)]) dX3_inRow_4 rfl (Nat.le_of_ble_eq_true rfl) rfl ?_
  refine wp_iload_n dX3_inRow_5 rfl rfl ?_
  refine wp_iload_n dX3_inRow_6 rfl rfl ?_
  obtain ⟨r3, hF4, h⟩ := obi h
  refine wp_callSi (As := [.int r1]) dX3_inRow_7 lbJ6_bitCount_0f7a4 mlX3_87 smJ6_bitCount_0f7a4 (ct_J6_bitCount_0f7a4 0 (Nat.le_refl _) hS  hF4) rfl rfl (Nat.le_trans (by decide) hd) (Nat.le_of_ble_eq_true rfl) (fun _ => ?_)
  refine wp_icmp_ge (tgt := 28) dX3_inRow_10 (by decide) (fun hc5 => ?_) (fun hc5 => ?_)
  · have h := ite_t hc5 h
    refine wp_iconst (v := (-1)) dX3_inRow_28 (by decide) ?_
    exact wp_iret dX3_inRow_29 rfl (by obtain rfl := sji h; exact ⟨rfl, rfl, rfl, rfl⟩)
  · have h := ite_f hc5 h
    refine wp_iload_n dX3_inRow_13 rfl rfl ?_
    refine wp_bipush (v := 9) dX3_inRow_14 (by decide) ?_
    refine wp_icmp_ge (tgt := 28) dX3_inRow_16 (by decide) (fun hc6 => ?_) (fun hc6 => ?_)
    · have h := ite_t hc6 h
      refine wp_iconst (v := (-1)) dX3_inRow_28 (by decide) ?_
      exact wp_iret dX3_inRow_29 rfl (by obtain rfl := sji h; exact ⟨rfl, rfl, rfl, rfl⟩)
    · have h := ite_f hc6 h
      refine wp_aload_n dX3_inRow_19 rfl rfl ?_
      refine wp_iload_n dX3_inRow_20 rfl rfl ?_
      refine wp_iconst (v := 0) dX3_inRow_21 (by decide) ?_
      obtain ⟨⟨r7, I8⟩, hF9, h⟩ := obi h
      refine wp_callVi (ci := 3) (As := [.int r1, .int 0]) dX3_inRow_22 lbX3_canMove mlX3_92 imX3_canMove seX3_canMove vc3 (ct_X3_canMove N 14 (Nat.le_refl _) hS  hF9) rfl rfl (Nat.le_trans (by decide) hd) (sk43 hS) (sn43 hS) (Nat.le_of_ble_eq_true rfl) (fun _ => ?_)
      refine wp_if_ne (tgt := 30) dX3_inRow_25 (by decide) (fun hc10 => ?_) (fun hc10 => ?_)
      · have h := ite_f hc10 h
        refine wp_aload_n dX3_inRow_30 rfl rfl ?_
        refine wp_getR dX3_inRow_31 flX3_22 rfl (sk43 hS) (sn43 hS) (sr43_6 hS) ?_
        refine wp_iload_n dX3_inRow_34 rfl rfl ?_
        obtain ⟨hb11, h⟩ := ck_inv h
        refine wp_iald dX3_inRow_35 (sk48 hS) (sn48 hS) hb11 ?_
        exact wp_iret dX3_inRow_36 rfl (by obtain rfl := sji h; exact ⟨rfl, rfl, rfl, rfl⟩)
      · have h := ite_t hc10 h
        refine wp_iconst (v := (-1)) dX3_inRow_28 (by decide) ?_
        exact wp_iret dX3_inRow_29 rfl (by obtain rfl := sji h; exact ⟨rfl, rfl, rfl, rfl⟩)
def mX3_fewestToBreak_25 (N : Nat) (k1 : Int32) (k2 : Int32) : Nat → Int32 → gI → Option ((gI) ⊕ (Int32 × gI))
  | 0, _, _ => none
  | n + 1, v3, I => if k1 < v3 then (some (.inl I)) else (if (v3 &&& (k1 ^^^ (-1))) = 0 then (Option.bind (mJ6_bitCount_0f7a4 v3 I) (fun r10 => if r10 = k2 then (Option.bind (mX3_canMove N (k1 &&& (v3 ^^^ (-1))) v3 I) (fun (r13, I14) => if r13 = 0 then (mX3_fewestToBreak_25 N k1 k2 n (v3 + 1) I14) else (some (.inr (v3, I14))))) else (mX3_fewestToBreak_25 N k1 k2 n (v3 + 1) I))) else (mX3_fewestToBreak_25 N k1 k2 n (v3 + 1) I))
def mX3_fewestToBreak_17 (N : Nat) (k1 : Int32) : Nat → Int32 → gI → Option ((gI) ⊕ (Int32 × gI))
  | 0, _, _ => none
  | n + 1, v2, I => if 9 < v2 then (some (.inl I)) else (lbind (mX3_fewestToBreak_25 N k1 v2 N 0 I) (fun I17 => mX3_fewestToBreak_17 N k1 n (v2 + 1) I17) (fun (r20, I21) => some (.inr (r20, I21))))
def mX3_fewestToBreak (N : Nat) (I : gI) : Option (Int32 × gI) := Option.bind (mX3_movers N I) (fun r1 => Option.bind (mX3_endFits N r1 I) (fun (r3, I4) => if r3 = 0 then (some ((-1), I4)) else (lbind (mX3_fewestToBreak_17 N r1 N 0 I4) (fun I22 => some ((-1), I22)) (fun (r25, I26) => some (r25, I26)))))
set_option maxHeartbeats 4000000 in
set_option maxRecDepth 100000 in
theorem wX3_fewestToBreak_25 (N : Nat) (d : Nat) (hd : 15 ≤ d) {S : gS} {J : gJ} (hS : Sh S)  (k1 : Int32) (k2 : Int32) {Q : gO → gS → gI → gJ → Prop} :
    ∀ (n : Nat) (v3 : Int32) (I : gI) (res : (gI) ⊕ (Int32 × gI)), mX3_fewestToBreak_25 N k1 k2 n v3 I = some res → (∀ (O : gI), res = Sum.inl O → Wp RX3 cX3_fewestToBreak 4 (some .int) [] hF d 0 0 67 [(0, .ref 43), (1, .int k1), (2, .int k2)] [] S O J Q) → (∀ (r : Int32) (O : gI), res = Sum.inr (r, O) → Q (.inl (some (.int r))) S O J) → Wp RX3 cX3_fewestToBreak 4 (some .int) [] hF d 0 0 25 [(0, .ref 43), (1, .int k1), (2, .int k2), (3, .int v3)] [] S I J Q := by
  intro n
  induction n with
  | zero => intro v3 I res h; exact nso h
  | succ n ih =>
    intro v3 I res h kx kr
    rw [mX3_fewestToBreak_25] at h
    refine wp_iload_n dX3_fewestToBreak_25 rfl rfl ?_
    refine wp_iload_n dX3_fewestToBreak_26 rfl rfl ?_
    refine wp_icmp_gt (tgt := 67) dX3_fewestToBreak_27 (by decide) (fun hc8 => ?_) (fun hc8 => ?_)
    · have h := ite_t hc8 h
      exact wp_pick (ks := [0, 1, 2]) rfl (kx _ (sji h).symm)
    · have h := ite_f hc8 h
      refine wp_iload_n dX3_fewestToBreak_30 rfl rfl ?_
      refine wp_iload_n dX3_fewestToBreak_31 rfl rfl ?_
      refine wp_iconst (v := (-1)) dX3_fewestToBreak_32 (by decide) ?_
      refine wp_ixor dX3_fewestToBreak_33 ?_
      refine wp_iand dX3_fewestToBreak_34 ?_
      refine wp_if_ne (tgt := 61) dX3_fewestToBreak_35 (by decide) (fun hc9 => ?_) (fun hc9 => ?_)
      · have h := ite_f hc9 h
        refine wp_iinc (v := 1) (ls' := [(3, .int (v3 + 1)), (0, .ref 43), (1, .int k1), (2, .int k2)]) dX3_fewestToBreak_61 rfl (by decide) (Nat.le_of_ble_eq_true rfl) rfl ?_
        refine wp_goto (tgt := 25) dX3_fewestToBreak_64 (by decide) ?_
        exact wp_pick (ks := [1, 2, 3, 0]) rfl (ih _ _ _ h kx kr)
      · have h := ite_t hc9 h
        refine wp_iload_n dX3_fewestToBreak_38 rfl rfl ?_
        obtain ⟨r10, hF11, h⟩ := obi h
        refine wp_callSi (As := [.int v3]) dX3_fewestToBreak_39 lbJ6_bitCount_0f7a4 mlX3_87 smJ6_bitCount_0f7a4 (ct_J6_bitCount_0f7a4 0 (Nat.le_refl _) hS  hF11) rfl rfl (Nat.le_trans (by decide) hd) (Nat.le_of_ble_eq_true rfl) (fun _ => ?_)
        refine wp_iload_n dX3_fewestToBreak_42 rfl rfl ?_
        refine wp_icmp_ne (tgt := 61) dX3_fewestToBreak_43 (by decide) (fun hc12 => ?_) (fun hc12 => ?_)
        · have h := ite_f hc12 h
          refine wp_iinc (v := 1) (ls' := [(3, .int (v3 + 1)), (0, .ref 43), (1, .int k1), (2, .int k2)]) dX3_fewestToBreak_61 rfl (by decide) (Nat.le_of_ble_eq_true rfl) rfl ?_
          refine wp_goto (tgt := 25) dX3_fewestToBreak_64 (by decide) ?_
          exact wp_pick (ks := [1, 2, 3, 0]) rfl (ih _ _ _ h kx kr)
        · have h := ite_t hc12 h
          refine wp_aload_n dX3_fewestToBreak_46 rfl rfl ?_
          refine wp_iload_n dX3_fewestToBreak_47 rfl rfl ?_
          refine wp_iload_n dX3_fewestToBreak_48 rfl rfl ?_
          refine wp_iconst (v := (-1)) dX3_fewestToBreak_49 (by decide) ?_
          refine wp_ixor dX3_fewestToBreak_50 ?_
          refine wp_iand dX3_fewestToBreak_51 ?_
          refine wp_iload_n dX3_fewestToBreak_52 rfl rfl ?_
          obtain ⟨⟨r13, I14⟩, hF15, h⟩ := obi h
          refine wp_callVi (ci := 3) (As := [.int (k1 &&& (v3 ^^^ (-1))), .int v3]) dX3_fewestToBreak_53 lbX3_canMove mlX3_92 imX3_canMove seX3_canMove vc3 (ct_X3_canMove N 14 (Nat.le_refl _) hS  hF15) rfl rfl (Nat.le_trans (by decide) hd) (sk43 hS) (sn43 hS) (Nat.le_of_ble_eq_true rfl) (fun _ => ?_)
          refine wp_if_eq (tgt := 61) dX3_fewestToBreak_56 (by decide) (fun hc16 => ?_) (fun hc16 => ?_)
          · have h := ite_t hc16 h
            refine wp_iinc (v := 1) (ls' := [(3, .int (v3 + 1)), (0, .ref 43), (1, .int k1), (2, .int k2)]) dX3_fewestToBreak_61 rfl (by decide) (Nat.le_of_ble_eq_true rfl) rfl ?_
            refine wp_goto (tgt := 25) dX3_fewestToBreak_64 (by decide) ?_
            exact wp_pick (ks := [1, 2, 3, 0]) rfl (ih _ _ _ h kx kr)
          · have h := ite_f hc16 h
            refine wp_iload_n dX3_fewestToBreak_59 rfl rfl ?_
            exact wp_iret dX3_fewestToBreak_60 rfl (kr _ _ (sji h).symm)
set_option maxHeartbeats 4000000 in
set_option maxRecDepth 100000 in
theorem wX3_fewestToBreak_17 (N : Nat) (d : Nat) (hd : 15 ≤ d) {S : gS} {J : gJ} (hS : Sh S)  (k1 : Int32) {Q : gO → gS → gI → gJ → Prop} :
    ∀ (n : Nat) (v2 : Int32) (I : gI) (res : (gI) ⊕ (Int32 × gI)), mX3_fewestToBreak_17 N k1 n v2 I = some res → (∀ (O : gI), res = Sum.inl O → Wp RX3 cX3_fewestToBreak 4 (some .int) [] hF d 0 0 73 [] [] S O J Q) → (∀ (r : Int32) (O : gI), res = Sum.inr (r, O) → Q (.inl (some (.int r))) S O J) → Wp RX3 cX3_fewestToBreak 4 (some .int) [] hF d 0 0 17 [(0, .ref 43), (1, .int k1), (2, .int v2)] [] S I J Q := by
  intro n
  induction n with
  | zero => intro v2 I res h; exact nso h
  | succ n ih =>
    intro v2 I res h kx kr
    rw [mX3_fewestToBreak_17] at h
    refine wp_iload_n dX3_fewestToBreak_17 rfl rfl ?_
    refine wp_bipush (v := 9) dX3_fewestToBreak_18 (by decide) ?_
    refine wp_icmp_gt (tgt := 73) dX3_fewestToBreak_20 (by decide) (fun hc7 => ?_) (fun hc7 => ?_)
    · have h := ite_t hc7 h
      exact wp_pick (ks := []) rfl (kx _ (sji h).symm)
    · have h := ite_f hc7 h
      refine wp_iconst (v := 0) dX3_fewestToBreak_23 (by decide) ?_
      refine wp_istore_n (ls' := [(3, .int 0), (0, .ref 43), (1, .int k1), (2, .int v2)]) dX3_fewestToBreak_24 rfl (Nat.le_of_ble_eq_true rfl) rfl ?_
      rcases lbi h with ⟨I17, hL918, h⟩ | ⟨⟨r20, I21⟩, hL918, h⟩
      · refine wp_pick (ks := [1, 2, 3, 0]) rfl (wX3_fewestToBreak_25 N d hd hS  k1 v2 N 0 I _ hL918 (fun _ e19 => ?_) (fun _ _ e9 => by cases e9))
        cases e19
        refine wp_iinc (v := 1) (ls' := [(2, .int (v2 + 1)), (0, .ref 43), (1, .int k1)]) dX3_fewestToBreak_67 rfl (by decide) (Nat.le_of_ble_eq_true rfl) rfl ?_
        refine wp_goto (tgt := 17) dX3_fewestToBreak_70 (by decide) ?_
        exact wp_pick (ks := [1, 2, 0]) rfl (ih _ _ _ h kx kr)
      · refine wp_pick (ks := [1, 2, 3, 0]) rfl (wX3_fewestToBreak_25 N d hd hS  k1 v2 N 0 I _ hL918 (fun _ e9 => by cases e9) (fun _ _ e19 => ?_))
        cases e19
        exact (kr _ _ (sji h).symm)
set_option maxHeartbeats 4000000 in
set_option maxRecDepth 100000 in
theorem ct_X3_fewestToBreak (N : Nat) (d : Nat) (hd : 15 ≤ d) {S : gS} {J : gJ} (hS : Sh S)  {I : gI} {r : Int32 × gI} (h : mX3_fewestToBreak N I = some r) : Ct yX3_fewestToBreak (wsY yX3_fewestToBreak cX3_fewestToBreak 4 (some .int)) d 0 0 [.ref 43] S I J (qE (.inl (some (.int r.1))) S r.2 J) := by
  refine Ct.of hF (fun _ _ _ _ _ => trivial) (by decide +kernel) (Nat.le_of_ble_eq_true rfl) ⟨Or.inl (sn43 hS), trivial⟩ ?_
  show Wp RX3 cX3_fewestToBreak 4 (some .int) [] hF d 0 0 0 [(0, .ref 43)] [] S I J _
  unfold mX3_fewestToBreak at h
  refine wp_aload_n dX3_fewestToBreak_0 rfl rfl ?_
  obtain ⟨r1, hF2, h⟩ := obi h
  refine wp_callVi (ci := 3) (As := []) dX3_fewestToBreak_1 lbX3_movers mlX3_83 imX3_movers seX3_movers vc3 (ct_X3_movers N 0 (Nat.le_refl _) hS  hF2) rfl rfl (Nat.le_trans (by decide) hd) (sk43 hS) (sn43 hS) (Nat.le_of_ble_eq_true rfl) (fun _ => ?_)
  refine wp_istore_n (ls' := [(1, .int r1), (0, .ref 43)]) dX3_fewestToBreak_4 rfl (Nat.le_of_ble_eq_true rfl) rfl ?_
  refine wp_aload_n dX3_fewestToBreak_5 rfl rfl ?_
  refine wp_iload_n dX3_fewestToBreak_6 rfl rfl ?_
  obtain ⟨⟨r3, I4⟩, hF5, h⟩ := obi h
  refine wp_callVi (ci := 3) (As := [.int r1]) dX3_fewestToBreak_7 lbX3_endFits mlX3_96 imX3_endFits seX3_endFits vc3 (ct_X3_endFits N 3 (Nat.le_refl _) hS  hF5) rfl rfl (Nat.le_trans (by decide) hd) (sk43 hS) (sn43 hS) (Nat.le_of_ble_eq_true rfl) (fun _ => ?_)
  refine wp_if_ne (tgt := 15) dX3_fewestToBreak_10 (by decide) (fun hc6 => ?_) (fun hc6 => ?_)
  · have h := ite_f hc6 h
    refine wp_iconst (v := 0) dX3_fewestToBreak_15 (by decide) ?_
    refine wp_istore_n (ls' := [(2, .int 0), (1, .int r1), (0, .ref 43)]) dX3_fewestToBreak_16 rfl (Nat.le_of_ble_eq_true rfl) rfl ?_
    rcases lbi h with ⟨I22, hL923, h⟩ | ⟨⟨r25, I26⟩, hL923, h⟩
    · refine wp_pick (ks := [2, 1, 0]) rfl (wX3_fewestToBreak_17 N d hd hS  r1 N 0 I4 _ hL923 (fun _ e24 => ?_) (fun _ _ e9 => by cases e9))
      cases e24
      refine wp_iconst (v := (-1)) dX3_fewestToBreak_73 (by decide) ?_
      exact wp_iret dX3_fewestToBreak_74 rfl (by obtain rfl := sji h; exact ⟨rfl, rfl, rfl, rfl⟩)
    · refine wp_pick (ks := [2, 1, 0]) rfl (wX3_fewestToBreak_17 N d hd hS  r1 N 0 I4 _ hL923 (fun _ e9 => by cases e9) (fun _ _ e24 => ?_))
      cases e24
      exact (by obtain rfl := sji h; exact ⟨rfl, rfl, rfl, rfl⟩)
  · have h := ite_t hc6 h
    refine wp_iconst (v := (-1)) dX3_fewestToBreak_13 (by decide) ?_
    exact wp_iret dX3_fewestToBreak_14 rfl (by obtain rfl := sji h; exact ⟨rfl, rfl, rfl, rfl⟩)
def mX5_flag (a2 : Int32) (I : gI) : Option (gI) := if (I 28 6) = 0 then (some (upd2 (upd2 I 28 6 a2) 28 7 ((upd2 I 28 6 a2) 28 3))) else (some I)
set_option maxHeartbeats 4000000 in
set_option maxRecDepth 100000 in
theorem ct_X5_flag (d : Nat) (hd : 0 ≤ d) {S : gS} {J : gJ} (hS : Sh S) (hB : S.2.1 28 0 = some 1) {a2 : Int32} {I : gI} {r : gI} (h : mX5_flag a2 I = some r) : Ct yX5_flag (wsY yX5_flag cX5_flag 2 none) d 0 0 [.ref 28, .int a2] S I J (qE (.inl none) S r J) := by
  refine Ct.of hF (fun _ _ _ _ _ => trivial) (by decide +kernel) (Nat.le_of_ble_eq_true rfl) ⟨Or.inl (sn28 hS), trivial, trivial⟩ ?_
  show Wp RX5 cX5_flag 2 none [] hF d 0 0 0 [(0, .ref 28), (1, .int a2)] [] S I J _
  unfold mX5_flag at h
  refine wp_aload_n dX5_flag_0 rfl rfl ?_
  refine wp_getI dX5_flag_1 flX5_28 rfl (sk28 hS) (sn28 hS) ?_
  refine wp_if_ne (tgt := 20) dX5_flag_4 (by decide) (fun hc1 => ?_) (fun hc1 => ?_)
  · have h := ite_f hc1 h
    exact wp_vret dX5_flag_20 rfl (by obtain rfl := sji h; exact ⟨rfl, rfl, rfl, rfl⟩)
  · have h := ite_t hc1 h
    refine wp_aload_n dX5_flag_7 rfl rfl ?_
    refine wp_iload_n dX5_flag_8 rfl rfl ?_
    refine wp_putI dX5_flag_9 (Or.inl fpX5_28) rfl ⟨rfl, rfl⟩ (sk28 hS) (sn28 hS) ?_
    refine wp_aload_n dX5_flag_12 rfl rfl ?_
    refine wp_aload_n dX5_flag_13 rfl rfl ?_
    refine wp_getI dX5_flag_14 flX5_120 rfl (sk28 hS) (sn28 hS) ?_
    refine wp_putI dX5_flag_17 (Or.inl fpX5_15) rfl ⟨rfl, rfl⟩ (sk28 hS) (sn28 hS) ?_
    exact wp_vret dX5_flag_20 rfl (by obtain rfl := sji h; exact ⟨rfl, rfl, rfl, rfl⟩)
def mX5_isBlank (a1 : Int32) (I : gI) : Option (Int32) := if a1 = 32 then (some 1) else (if a1 = 10 then (some 1) else (some 0))
set_option maxHeartbeats 4000000 in
set_option maxRecDepth 100000 in
theorem ct_X5_isBlank (d : Nat) (hd : 0 ≤ d) {S : gS} {J : gJ} (hS : Sh S) (hB : S.2.1 28 0 = some 1) {a1 : Int32} {I : gI} {r : Int32} (h : mX5_isBlank a1 I = some r) : Ct yX5_isBlank (wsY yX5_isBlank cX5_isBlank 1 (some .boolean)) d 0 0 [.int a1] S I J (qE (.inl (some (.int r))) S I J) := by
  refine Ct.of hF (fun _ _ _ _ _ => trivial) (by decide +kernel) (Nat.le_of_ble_eq_true rfl) ⟨trivial, trivial⟩ ?_
  show Wp RX5 cX5_isBlank 1 (some .boolean) [] hF d 0 0 0 [(0, .int a1)] [] S I J _
  unfold mX5_isBlank at h
  refine wp_iload_n dX5_isBlank_0 rfl rfl ?_
  refine wp_bipush (v := 32) dX5_isBlank_1 (by decide) ?_
  refine wp_icmp_eq (tgt := 12) dX5_isBlank_3 (by decide) (fun hc1 => ?_) (fun hc1 => ?_)
  · have h := ite_t hc1 h
    refine wp_iconst (v := 1) dX5_isBlank_12 (by decide) ?_
    refine wp_goto (tgt := 17) dX5_isBlank_13 (by decide) ?_
    exact wp_zret dX5_isBlank_17 rfl (by decide) (by obtain rfl := sji h; exact ⟨rfl, rfl, rfl, rfl⟩)
  · have h := ite_f hc1 h
    refine wp_iload_n dX5_isBlank_6 rfl rfl ?_
    refine wp_bipush (v := 10) dX5_isBlank_7 (by decide) ?_
    refine wp_icmp_ne (tgt := 16) dX5_isBlank_9 (by decide) (fun hc2 => ?_) (fun hc2 => ?_)
    · have h := ite_f hc2 h
      refine wp_iconst (v := 0) dX5_isBlank_16 (by decide) ?_
      exact wp_zret dX5_isBlank_17 rfl (by decide) (by obtain rfl := sji h; exact ⟨rfl, rfl, rfl, rfl⟩)
    · have h := ite_t hc2 h
      refine wp_iconst (v := 1) dX5_isBlank_12 (by decide) ?_
      refine wp_goto (tgt := 17) dX5_isBlank_13 (by decide) ?_
      exact wp_zret dX5_isBlank_17 rfl (by decide) (by obtain rfl := sji h; exact ⟨rfl, rfl, rfl, rfl⟩)
def mX5_endOfRow_0 (k1 : Int32) (k2 : Int32) : Nat → gI → Option (gI)
  | 0, _ => none
  | n + 1, I => if (I 28 1) ≤ (I 28 4) then (some I) else (ck (I 28 4) 700 (if (I 1 (I 28 4).toNatClampNeg) < k1 then (some I) else (if k2 < (I 1 (I 28 4).toNatClampNeg) then (some I) else (mX5_endOfRow_0 k1 k2 n (upd2 I 28 4 ((I 28 4) + 1))))))
def mX5_endOfRow (N : Nat) (a2 : Int32) (a3 : Int32) (I : gI) : Option (gI) := Option.bind (mX5_endOfRow_0 a2 a3 N I) (fun I5 => some I5)
set_option maxHeartbeats 4000000 in
set_option maxRecDepth 100000 in
theorem wX5_endOfRow_0 (d : Nat) (hd : 0 ≤ d) {S : gS} {J : gJ} (hS : Sh S) (hB : S.2.1 28 0 = some 1) (k1 : Int32) (k2 : Int32) {Q : gO → gS → gI → gJ → Prop} :
    ∀ (n : Nat)  (I : gI) (res : gI), mX5_endOfRow_0 k1 k2 n I = some res → (∀ (O : gI), res = O → Wp RX5 cX5_endOfRow 3 none [] hF d 0 0 50 [] [] S O J Q) → Wp RX5 cX5_endOfRow 3 none [] hF d 0 0 0 [(0, .ref 28), (1, .int k1), (2, .int k2)] [] S I J Q := by
  intro n
  induction n with
  | zero => intro I res h; exact nso h
  | succ n ih =>
    intro I res h kx
    rw [mX5_endOfRow_0] at h
    refine wp_aload_n dX5_endOfRow_0 rfl rfl ?_
    refine wp_getI dX5_endOfRow_1 flX5_31 rfl (sk28 hS) (sn28 hS) ?_
    refine wp_aload_n dX5_endOfRow_4 rfl rfl ?_
    refine wp_getI dX5_endOfRow_5 flX5_25 rfl (sk28 hS) (sn28 hS) ?_
    refine wp_icmp_ge (tgt := 50) dX5_endOfRow_8 (by decide) (fun hc1 => ?_) (fun hc1 => ?_)
    · have h := ite_t hc1 h
      exact wp_pick (ks := []) rfl (kx _ (sji h).symm)
    · have h := ite_f hc1 h
      refine wp_aload_n dX5_endOfRow_11 rfl rfl ?_
      refine wp_getR dX5_endOfRow_12 flX5_9 rfl (sk28 hS) (sn28 hS) hB ?_
      refine wp_aload_n dX5_endOfRow_15 rfl rfl ?_
      refine wp_getI dX5_endOfRow_16 flX5_31 rfl (sk28 hS) (sn28 hS) ?_
      obtain ⟨hb2, h⟩ := ck_inv h
      refine wp_bald dX5_endOfRow_19 (sk1 hS) (sn1 hS) hb2 ?_
      refine wp_iload_n dX5_endOfRow_20 rfl rfl ?_
      refine wp_icmp_lt (tgt := 50) dX5_endOfRow_21 (by decide) (fun hc3 => ?_) (fun hc3 => ?_)
      · have h := ite_t hc3 h
        exact wp_pick (ks := []) rfl (kx _ (sji h).symm)
      · have h := ite_f hc3 h
        refine wp_aload_n dX5_endOfRow_24 rfl rfl ?_
        refine wp_getR dX5_endOfRow_25 flX5_9 rfl (sk28 hS) (sn28 hS) hB ?_
        refine wp_aload_n dX5_endOfRow_28 rfl rfl ?_
        refine wp_getI dX5_endOfRow_29 flX5_31 rfl (sk28 hS) (sn28 hS) ?_
        refine wp_bald dX5_endOfRow_32 (sk1 hS) (sn1 hS) hb2 ?_
        refine wp_iload_n dX5_endOfRow_33 rfl rfl ?_
        refine wp_icmp_gt (tgt := 50) dX5_endOfRow_34 (by decide) (fun hc4 => ?_) (fun hc4 => ?_)
        · have h := ite_t hc4 h
          exact wp_pick (ks := []) rfl (kx _ (sji h).symm)
        · have h := ite_f hc4 h
          refine wp_aload_n dX5_endOfRow_37 rfl rfl ?_
          refine wp_dup dX5_endOfRow_38 rfl ?_
          refine wp_getI dX5_endOfRow_39 flX5_31 rfl (sk28 hS) (sn28 hS) ?_
          refine wp_iconst (v := 1) dX5_endOfRow_42 (by decide) ?_
          refine wp_iadd dX5_endOfRow_43 ?_
          refine wp_putI dX5_endOfRow_44 (Or.inl fpX5_31) rfl ⟨rfl, rfl⟩ (sk28 hS) (sn28 hS) ?_
          refine wp_goto (tgt := 0) dX5_endOfRow_47 (by decide) ?_
          exact wp_pick (ks := [0, 1, 2]) rfl (ih _ _ h kx)
set_option maxHeartbeats 4000000 in
set_option maxRecDepth 100000 in
theorem ct_X5_endOfRow (N : Nat) (d : Nat) (hd : 0 ≤ d) {S : gS} {J : gJ} (hS : Sh S) (hB : S.2.1 28 0 = some 1) {a2 : Int32} {a3 : Int32} {I : gI} {r : gI} (h : mX5_endOfRow N a2 a3 I = some r) : Ct yX5_endOfRow (wsY yX5_endOfRow cX5_endOfRow 3 none) d 0 0 [.ref 28, .int a2, .int a3] S I J (qE (.inl none) S r J) := by
  refine Ct.of hF (fun _ _ _ _ _ => trivial) (by decide +kernel) (Nat.le_of_ble_eq_true rfl) ⟨Or.inl (sn28 hS), trivial, trivial, trivial⟩ ?_
  show Wp RX5 cX5_endOfRow 3 none [] hF d 0 0 0 [(0, .ref 28), (1, .int a2), (2, .int a3)] [] S I J _
  unfold mX5_endOfRow at h
  obtain ⟨I5, hL96, h⟩ := obi h
  refine wp_pick (ks := [0, 1, 2]) rfl (wX5_endOfRow_0 d hd hS hB a2 a3 N I _ hL96 (fun _ e7 => ?_))
  cases e7
  exact wp_vret dX5_endOfRow_50 rfl (by obtain rfl := sji h; exact ⟨rfl, rfl, rfl, rfl⟩)
def mX5_valueOfRow_7 (I : gI) : Nat → Int32 → Int32 → Option (Int32)
  | 0, _, _ => none
  | n + 1, v1, v2 => if (I 28 4) ≤ v2 then (some v1) else (ck v2 700 (nm (if (((v1 * 10) + (I 1 v2.toNatClampNeg)) - 48) < 1000000 then (((v1 * 10) + (I 1 v2.toNatClampNeg)) - 48) else 1000000) (fun x3 => mX5_valueOfRow_7 I n x3 (v2 + 1))))
def mX5_valueOfRow (N : Nat) (I : gI) : Option (Int32) := Option.bind (mX5_valueOfRow_7 I N 0 (I 28 3)) (fun y5 => some y5)
set_option maxHeartbeats 4000000 in
set_option maxRecDepth 100000 in
theorem wX5_valueOfRow_7 (d : Nat) (hd : 1 ≤ d) {S : gS} {J : gJ} (hS : Sh S) (hB : S.2.1 28 0 = some 1) (I : gI) {Q : gO → gS → gI → gJ → Prop} :
    ∀ (n : Nat) (v1 : Int32) (v2 : Int32) (res : Int32), mX5_valueOfRow_7 I n v1 v2 = some res → (∀ (o1 : Int32), res = o1 → Wp RX5 cX5_valueOfRow 3 (some .int) [] hF d 0 0 41 [(1, .int o1)] [] S I J Q) → Wp RX5 cX5_valueOfRow 3 (some .int) [] hF d 0 0 7 [(0, .ref 28), (1, .int v1), (2, .int v2)] [] S I J Q := by
  intro n
  induction n with
  | zero => intro v1 v2 res h; exact nso h
  | succ n ih =>
    intro v1 v2 res h kx
    rw [mX5_valueOfRow_7] at h
    refine wp_iload_n dX5_valueOfRow_7 rfl rfl ?_
    refine wp_aload_n dX5_valueOfRow_8 rfl rfl ?_
    refine wp_getI dX5_valueOfRow_9 flX5_31 rfl (sk28 hS) (sn28 hS) ?_
    refine wp_icmp_ge (tgt := 41) dX5_valueOfRow_12 (by decide) (fun hc1 => ?_) (fun hc1 => ?_)
    · have h := ite_t hc1 h
      exact wp_pick (ks := [1]) rfl (kx _ (sji h).symm)
    · have h := ite_f hc1 h
      refine wp_ldc dX5_valueOfRow_15 koX5_142 ?_
      refine wp_iload_n dX5_valueOfRow_17 rfl rfl ?_
      refine wp_bipush (v := 10) dX5_valueOfRow_18 (by decide) ?_
      refine wp_imul dX5_valueOfRow_20 ?_
      refine wp_aload_n dX5_valueOfRow_21 rfl rfl ?_
      refine wp_getR dX5_valueOfRow_22 flX5_9 rfl (sk28 hS) (sn28 hS) hB ?_
      refine wp_iload_n dX5_valueOfRow_25 rfl rfl ?_
      obtain ⟨hb2, h⟩ := ck_inv h
      refine wp_bald dX5_valueOfRow_26 (sk1 hS) (sn1 hS) hb2 ?_
      refine wp_iadd dX5_valueOfRow_27 ?_
      refine wp_bipush (v := 48) dX5_valueOfRow_28 (by decide) ?_
      refine wp_isub dX5_valueOfRow_30 ?_
      refine wp_min dX5_valueOfRow_31 mlX5_19 ma_min1 ma_2 ma_min3 (Nat.le_trans (by decide) hd) (Nat.le_of_ble_eq_true rfl) ?_
      obtain ⟨x3, hx4, h⟩ := nm_inv h
      refine wp_topi hx4 ?_
      refine wp_istore_n (ls' := [(1, .int x3), (0, .ref 28), (2, .int v2)]) dX5_valueOfRow_34 rfl (Nat.le_of_ble_eq_true rfl) rfl ?_
      refine wp_iinc (v := 1) (ls' := [(2, .int (v2 + 1)), (1, .int x3), (0, .ref 28)]) dX5_valueOfRow_35 rfl (by decide) (Nat.le_of_ble_eq_true rfl) rfl ?_
      refine wp_goto (tgt := 7) dX5_valueOfRow_38 (by decide) ?_
      exact wp_pick (ks := [2, 1, 0]) rfl (ih _ _ _ h kx)
set_option maxHeartbeats 4000000 in
set_option maxRecDepth 100000 in
theorem ct_X5_valueOfRow (N : Nat) (d : Nat) (hd : 1 ≤ d) {S : gS} {J : gJ} (hS : Sh S) (hB : S.2.1 28 0 = some 1) {I : gI} {r : Int32} (h : mX5_valueOfRow N I = some r) : Ct yX5_valueOfRow (wsY yX5_valueOfRow cX5_valueOfRow 3 (some .int)) d 0 0 [.ref 28] S I J (qE (.inl (some (.int r))) S I J) := by
  refine Ct.of hF (fun _ _ _ _ _ => trivial) (by decide +kernel) (Nat.le_of_ble_eq_true rfl) ⟨Or.inl (sn28 hS), trivial⟩ ?_
  show Wp RX5 cX5_valueOfRow 3 (some .int) [] hF d 0 0 0 [(0, .ref 28)] [] S I J _
  unfold mX5_valueOfRow at h
  refine wp_iconst (v := 0) dX5_valueOfRow_0 (by decide) ?_
  refine wp_istore_n (ls' := [(1, .int 0), (0, .ref 28)]) dX5_valueOfRow_1 rfl (Nat.le_of_ble_eq_true rfl) rfl ?_
  refine wp_aload_n dX5_valueOfRow_2 rfl rfl ?_
  refine wp_getI dX5_valueOfRow_3 flX5_120 rfl (sk28 hS) (sn28 hS) ?_
  refine wp_istore_n (ls' := [(2, .int (I 28 3)), (1, .int 0), (0, .ref 28)]) dX5_valueOfRow_6 rfl (Nat.le_of_ble_eq_true rfl) rfl ?_
  obtain ⟨y5, hL96, h⟩ := obi h
  refine wp_pick (ks := [2, 1, 0]) rfl (wX5_valueOfRow_7 d hd hS hB I N 0 (I 28 3) _ hL96 (fun _ e7 => ?_))
  cases e7
  refine wp_iload_n dX5_valueOfRow_41 rfl rfl ?_
  exact wp_iret dX5_valueOfRow_42 rfl (by obtain rfl := sji h; exact ⟨rfl, rfl, rfl, rfl⟩)
def mX5_next_8  : Nat → gI → Option (gI)
  | 0, _ => none
  | n + 1, I => if (I 28 1) ≤ (I 28 3) then (some I) else (ck (I 28 3) 700 (Option.bind (mX5_isBlank (I 1 (I 28 3).toNatClampNeg) I) (fun r3 => if r3 = 0 then (some I) else (mX5_next_8 n (upd2 I 28 3 ((I 28 3) + 1))))))
def mX5_next (N : Nat) (I : gI) : Option (gI) := Option.bind (mX5_next_8 N (upd2 I 28 3 (I 28 4))) (fun I6 => if ((upd2 I6 28 4 (I6 28 3)) 28 3) < ((upd2 I6 28 4 (I6 28 3)) 28 1) then (ck ((upd2 I6 28 4 (I6 28 3)) 28 3) 700 (nm ((upd2 I6 28 4 (I6 28 3)) 1 ((upd2 I6 28 4 (I6 28 3)) 28 3).toNatClampNeg) (fun x9 => if x9 < 97 then (if x9 < 48 then (if x9 = 59 then (nm (upd2 (upd2 (upd2 I6 28 4 (I6 28 3)) 28 2 3) 28 4 (((upd2 (upd2 I6 28 4 (I6 28 3)) 28 2 3) 28 3) + 1)) (fun I16 => some I16)) else (nm (upd2 (upd2 (upd2 I6 28 4 (I6 28 3)) 28 2 4) 28 4 (((upd2 (upd2 I6 28 4 (I6 28 3)) 28 2 4) 28 3) + 1)) (fun I14 => some I14))) else (if 57 < x9 then (if x9 = 59 then (nm (upd2 (upd2 (upd2 I6 28 4 (I6 28 3)) 28 2 3) 28 4 (((upd2 (upd2 I6 28 4 (I6 28 3)) 28 2 3) 28 3) + 1)) (fun I22 => some I22)) else (nm (upd2 (upd2 (upd2 I6 28 4 (I6 28 3)) 28 2 4) 28 4 (((upd2 (upd2 I6 28 4 (I6 28 3)) 28 2 4) 28 3) + 1)) (fun I20 => some I20))) else (Option.bind (mX5_endOfRow N 48 57 (upd2 (upd2 I6 28 4 (I6 28 3)) 28 2 2)) (fun I24 => Option.bind (mX5_valueOfRow N I24) (fun r26 => some (upd2 I24 28 5 r26)))))) else (if 122 < x9 then (if x9 < 48 then (if x9 = 59 then (nm (upd2 (upd2 (upd2 I6 28 4 (I6 28 3)) 28 2 3) 28 4 (((upd2 (upd2 I6 28 4 (I6 28 3)) 28 2 3) 28 3) + 1)) (fun I33 => some I33)) else (nm (upd2 (upd2 (upd2 I6 28 4 (I6 28 3)) 28 2 4) 28 4 (((upd2 (upd2 I6 28 4 (I6 28 3)) 28 2 4) 28 3) + 1)) (fun I31 => some I31))) else (if 57 < x9 then (if x9 = 59 then (nm (upd2 (upd2 (upd2 I6 28 4 (I6 28 3)) 28 2 3) 28 4 (((upd2 (upd2 I6 28 4 (I6 28 3)) 28 2 3) 28 3) + 1)) (fun I39 => some I39)) else (nm (upd2 (upd2 (upd2 I6 28 4 (I6 28 3)) 28 2 4) 28 4 (((upd2 (upd2 I6 28 4 (I6 28 3)) 28 2 4) 28 3) + 1)) (fun I37 => some I37))) else (Option.bind (mX5_endOfRow N 48 57 (upd2 (upd2 I6 28 4 (I6 28 3)) 28 2 2)) (fun I41 => Option.bind (mX5_valueOfRow N I41) (fun r43 => some (upd2 I41 28 5 r43)))))) else (Option.bind (mX5_endOfRow N 97 122 (upd2 (upd2 I6 28 4 (I6 28 3)) 28 2 1)) (fun I45 => some I45)))))) else (some (upd2 (upd2 I6 28 4 (I6 28 3)) 28 2 0)))
set_option maxHeartbeats 4000000 in
set_option maxRecDepth 100000 in
theorem wX5_next_8 (d : Nat) (hd : 2 ≤ d) {S : gS} {J : gJ} (hS : Sh S) (hB : S.2.1 28 0 = some 1) {Q : gO → gS → gI → gJ → Prop} :
    ∀ (n : Nat)  (I : gI) (res : gI), mX5_next_8 n I = some res → (∀ (O : gI), res = O → Wp RX5 cX5_next 2 none [] hF d 0 0 47 [(0, .ref 28)] [] S O J Q) → Wp RX5 cX5_next 2 none [] hF d 0 0 8 [(0, .ref 28)] [] S I J Q := by
  intro n
  induction n with
  | zero => intro I res h; exact nso h
  | succ n ih =>
    intro I res h kx
    rw [mX5_next_8] at h
    refine wp_aload_n dX5_next_8 rfl rfl ?_
    refine wp_getI dX5_next_9 flX5_120 rfl (sk28 hS) (sn28 hS) ?_
    refine wp_aload_n dX5_next_12 rfl rfl ?_
    refine wp_getI dX5_next_13 flX5_25 rfl (sk28 hS) (sn28 hS) ?_
    refine wp_icmp_ge (tgt := 47) dX5_next_16 (by decide) (fun hc1 => ?_) (fun hc1 => ?_)
    · have h := ite_t hc1 h
      exact wp_pick (ks := [0]) rfl (kx _ (sji h).symm)
    · have h := ite_f hc1 h
      refine wp_aload_n dX5_next_19 rfl rfl ?_
      refine wp_getR dX5_next_20 flX5_9 rfl (sk28 hS) (sn28 hS) hB ?_
      refine wp_aload_n dX5_next_23 rfl rfl ?_
      refine wp_getI dX5_next_24 flX5_120 rfl (sk28 hS) (sn28 hS) ?_
      obtain ⟨hb2, h⟩ := ck_inv h
      refine wp_bald dX5_next_27 (sk1 hS) (sn1 hS) hb2 ?_
      obtain ⟨r3, hF4, h⟩ := obi h
      refine wp_callSi (As := [.int (I 1 (I 28 3).toNatClampNeg)]) dX5_next_28 lbX5_isBlank mlX5_130 smX5_isBlank (ct_X5_isBlank 0 (Nat.le_refl _) hS hB hF4) rfl rfl (Nat.le_trans (by decide) hd) (Nat.le_of_ble_eq_true rfl) (fun _ => ?_)
      refine wp_if_eq (tgt := 47) dX5_next_31 (by decide) (fun hc5 => ?_) (fun hc5 => ?_)
      · have h := ite_t hc5 h
        exact wp_pick (ks := [0]) rfl (kx _ (sji h).symm)
      · have h := ite_f hc5 h
        refine wp_aload_n dX5_next_34 rfl rfl ?_
        refine wp_dup dX5_next_35 rfl ?_
        refine wp_getI dX5_next_36 flX5_120 rfl (sk28 hS) (sn28 hS) ?_
        refine wp_iconst (v := 1) dX5_next_39 (by decide) ?_
        refine wp_iadd dX5_next_40 ?_
        refine wp_putI dX5_next_41 (Or.inl fpX5_120) rfl ⟨rfl, rfl⟩ (sk28 hS) (sn28 hS) ?_
        refine wp_goto (tgt := 8) dX5_next_44 (by decide) ?_
        exact wp_pick (ks := [0]) rfl (ih _ _ h kx)
set_option maxHeartbeats 4000000 in
set_option maxRecDepth 100000 in
theorem ct_X5_next (N : Nat) (d : Nat) (hd : 2 ≤ d) {S : gS} {J : gJ} (hS : Sh S) (hB : S.2.1 28 0 = some 1) {I : gI} {r : gI} (h : mX5_next N I = some r) : Ct yX5_next (wsY yX5_next cX5_next 2 none) d 0 0 [.ref 28] S I J (qE (.inl none) S r J) := by
  refine Ct.of hF (fun _ _ _ _ _ => trivial) (by decide +kernel) (Nat.le_of_ble_eq_true rfl) ⟨Or.inl (sn28 hS), trivial⟩ ?_
  show Wp RX5 cX5_next 2 none [] hF d 0 0 0 [(0, .ref 28)] [] S I J _
  unfold mX5_next at h
  refine wp_aload_n dX5_next_0 rfl rfl ?_
  refine wp_aload_n dX5_next_1 rfl rfl ?_
  refine wp_getI dX5_next_2 flX5_31 rfl (sk28 hS) (sn28 hS) ?_
  refine wp_putI dX5_next_5 (Or.inl fpX5_120) rfl ⟨rfl, rfl⟩ (sk28 hS) (sn28 hS) ?_
  obtain ⟨I6, hL947, h⟩ := obi h
  refine wp_pick (ks := [0]) rfl (wX5_next_8 d hd hS hB  N (upd2 I 28 3 (I 28 4)) _ hL947 (fun _ e48 => ?_))
  cases e48
  refine wp_aload_n dX5_next_47 rfl rfl ?_
  refine wp_aload_n dX5_next_48 rfl rfl ?_
  refine wp_getI dX5_next_49 flX5_120 rfl (sk28 hS) (sn28 hS) ?_
  refine wp_putI dX5_next_52 (Or.inl fpX5_31) rfl ⟨rfl, rfl⟩ (sk28 hS) (sn28 hS) ?_
  refine wp_aload_n dX5_next_55 rfl rfl ?_
  refine wp_getI dX5_next_56 flX5_120 rfl (sk28 hS) (sn28 hS) ?_
  refine wp_aload_n dX5_next_59 rfl rfl ?_
  refine wp_getI dX5_next_60 flX5_25 rfl (sk28 hS) (sn28 hS) ?_
  refine wp_icmp_lt (tgt := 72) dX5_next_63 (by decide) (fun hc7 => ?_) (fun hc7 => ?_)
  · have h := ite_t hc7 h
    refine wp_aload_n dX5_next_72 rfl rfl ?_
    refine wp_getR dX5_next_73 flX5_9 rfl (sk28 hS) (sn28 hS) hB ?_
    refine wp_aload_n dX5_next_76 rfl rfl ?_
    refine wp_getI dX5_next_77 flX5_120 rfl (sk28 hS) (sn28 hS) ?_
    obtain ⟨hb8, h⟩ := ck_inv h
    refine wp_bald dX5_next_80 (sk1 hS) (sn1 hS) hb8 ?_
    obtain ⟨x9, hx10, h⟩ := nm_inv h
    refine wp_topi hx10 ?_
    refine wp_istore_n (ls' := [(1, .int x9), (0, .ref 28)]) dX5_next_81 rfl (Nat.le_of_ble_eq_true rfl) rfl ?_
    refine wp_iload_n dX5_next_82 rfl rfl ?_
    refine wp_bipush (v := 97) dX5_next_83 (by decide) ?_
    refine wp_icmp_lt (tgt := 110) dX5_next_85 (by decide) (fun hc11 => ?_) (fun hc11 => ?_)
    · have h := ite_t hc11 h
      refine wp_iload_n dX5_next_110 rfl rfl ?_
      refine wp_bipush (v := 48) dX5_next_111 (by decide) ?_
      refine wp_icmp_lt (tgt := 146) dX5_next_113 (by decide) (fun hc12 => ?_) (fun hc12 => ?_)
      · have h := ite_t hc12 h
        refine wp_aload_n dX5_next_146 rfl rfl ?_
        refine wp_iload_n dX5_next_147 rfl rfl ?_
        refine wp_bipush (v := 59) dX5_next_148 (by decide) ?_
        refine wp_icmp_ne (tgt := 157) dX5_next_150 (by decide) (fun hc13 => ?_) (fun hc13 => ?_)
        · have h := ite_f hc13 h
          refine wp_iconst (v := 4) dX5_next_157 (by decide) ?_
          refine wp_putI dX5_next_158 (Or.inl fpX5_56) rfl ⟨rfl, rfl⟩ (sk28 hS) (sn28 hS) ?_
          refine wp_aload_n dX5_next_161 rfl rfl ?_
          refine wp_aload_n dX5_next_162 rfl rfl ?_
          refine wp_getI dX5_next_163 flX5_120 rfl (sk28 hS) (sn28 hS) ?_
          refine wp_iconst (v := 1) dX5_next_166 (by decide) ?_
          refine wp_iadd dX5_next_167 ?_
          refine wp_putI dX5_next_168 (Or.inl fpX5_31) rfl ⟨rfl, rfl⟩ (sk28 hS) (sn28 hS) ?_
          obtain ⟨I14, hx15, h⟩ := nm_inv h
          refine wp_nmI hx15 ?_
          exact wp_vret dX5_next_171 rfl (by obtain rfl := sji h; exact ⟨rfl, rfl, rfl, rfl⟩)
        · have h := ite_t hc13 h
          refine wp_iconst (v := 3) dX5_next_153 (by decide) ?_
          refine wp_goto (tgt := 158) dX5_next_154 (by decide) ?_
          refine wp_putI dX5_next_158 (Or.inl fpX5_56) rfl ⟨rfl, rfl⟩ (sk28 hS) (sn28 hS) ?_
          refine wp_aload_n dX5_next_161 rfl rfl ?_
          refine wp_aload_n dX5_next_162 rfl rfl ?_
          refine wp_getI dX5_next_163 flX5_120 rfl (sk28 hS) (sn28 hS) ?_
          refine wp_iconst (v := 1) dX5_next_166 (by decide) ?_
          refine wp_iadd dX5_next_167 ?_
          refine wp_putI dX5_next_168 (Or.inl fpX5_31) rfl ⟨rfl, rfl⟩ (sk28 hS) (sn28 hS) ?_
          obtain ⟨I16, hx17, h⟩ := nm_inv h
          refine wp_nmI hx17 ?_
          exact wp_vret dX5_next_171 rfl (by obtain rfl := sji h; exact ⟨rfl, rfl, rfl, rfl⟩)
      · have h := ite_f hc12 h
        refine wp_iload_n dX5_next_116 rfl rfl ?_
        refine wp_bipush (v := 57) dX5_next_117 (by decide) ?_
        refine wp_icmp_gt (tgt := 146) dX5_next_119 (by decide) (fun hc18 => ?_) (fun hc18 => ?_)
        · have h := ite_t hc18 h
          refine wp_aload_n dX5_next_146 rfl rfl ?_
          refine wp_iload_n dX5_next_147 rfl rfl ?_
          refine wp_bipush (v := 59) dX5_next_148 (by decide) ?_
          refine wp_icmp_ne (tgt := 157) dX5_next_150 (by decide) (fun hc19 => ?_) (fun hc19 => ?_)
          · have h := ite_f hc19 h
            refine wp_iconst (v := 4) dX5_next_157 (by decide) ?_
            refine wp_putI dX5_next_158 (Or.inl fpX5_56) rfl ⟨rfl, rfl⟩ (sk28 hS) (sn28 hS) ?_
            refine wp_aload_n dX5_next_161 rfl rfl ?_
            refine wp_aload_n dX5_next_162 rfl rfl ?_
            refine wp_getI dX5_next_163 flX5_120 rfl (sk28 hS) (sn28 hS) ?_
            refine wp_iconst (v := 1) dX5_next_166 (by decide) ?_
            refine wp_iadd dX5_next_167 ?_
            refine wp_putI dX5_next_168 (Or.inl fpX5_31) rfl ⟨rfl, rfl⟩ (sk28 hS) (sn28 hS) ?_
            obtain ⟨I20, hx21, h⟩ := nm_inv h
            refine wp_nmI hx21 ?_
            exact wp_vret dX5_next_171 rfl (by obtain rfl := sji h; exact ⟨rfl, rfl, rfl, rfl⟩)
          · have h := ite_t hc19 h
            refine wp_iconst (v := 3) dX5_next_153 (by decide) ?_
            refine wp_goto (tgt := 158) dX5_next_154 (by decide) ?_
            refine wp_putI dX5_next_158 (Or.inl fpX5_56) rfl ⟨rfl, rfl⟩ (sk28 hS) (sn28 hS) ?_
            refine wp_aload_n dX5_next_161 rfl rfl ?_
            refine wp_aload_n dX5_next_162 rfl rfl ?_
            refine wp_getI dX5_next_163 flX5_120 rfl (sk28 hS) (sn28 hS) ?_
            refine wp_iconst (v := 1) dX5_next_166 (by decide) ?_
            refine wp_iadd dX5_next_167 ?_
            refine wp_putI dX5_next_168 (Or.inl fpX5_31) rfl ⟨rfl, rfl⟩ (sk28 hS) (sn28 hS) ?_
            obtain ⟨I22, hx23, h⟩ := nm_inv h
            refine wp_nmI hx23 ?_
            exact wp_vret dX5_next_171 rfl (by obtain rfl := sji h; exact ⟨rfl, rfl, rfl, rfl⟩)
        · have h := ite_f hc18 h
          refine wp_aload_n dX5_next_122 rfl rfl ?_
          refine wp_iconst (v := 2) dX5_next_123 (by decide) ?_
          refine wp_putI dX5_next_124 (Or.inl fpX5_56) rfl ⟨rfl, rfl⟩ (sk28 hS) (sn28 hS) ?_
          refine wp_aload_n dX5_next_127 rfl rfl ?_
          refine wp_bipush (v := 48) dX5_next_128 (by decide) ?_
          refine wp_bipush (v := 57) dX5_next_130 (by decide) ?_
          obtain ⟨I24, hF25, h⟩ := obi h
          refine wp_callVv (ci := 5) (As := [.int 48, .int 57]) dX5_next_132 lbX5_endOfRow mlX5_134 imX5_endOfRow seX5_endOfRow vc5 (ct_X5_endOfRow N 0 (Nat.le_refl _) hS hB hF25) rfl rfl (Nat.le_trans (by decide) hd) (sk28 hS) (sn28 hS) (Nat.le_of_ble_eq_true rfl) (fun _ => ?_)
          refine wp_aload_n dX5_next_135 rfl rfl ?_
          refine wp_aload_n dX5_next_136 rfl rfl ?_
          obtain ⟨r26, hF27, h⟩ := obi h
          refine wp_callVi (ci := 5) (As := []) dX5_next_137 lbX5_valueOfRow mlX5_138 imX5_valueOfRow seX5_valueOfRow vc5 (ct_X5_valueOfRow N 1 (Nat.le_refl _) hS hB hF27) rfl rfl (Nat.le_trans (by decide) hd) (sk28 hS) (sn28 hS) (Nat.le_of_ble_eq_true rfl) (fun _ => ?_)
          refine wp_putI dX5_next_140 (Or.inl fpX5_123) rfl ⟨rfl, rfl⟩ (sk28 hS) (sn28 hS) ?_
          refine wp_goto (tgt := 171) dX5_next_143 (by decide) ?_
          exact wp_vret dX5_next_171 rfl (by obtain rfl := sji h; exact ⟨rfl, rfl, rfl, rfl⟩)
    · have h := ite_f hc11 h
      refine wp_iload_n dX5_next_88 rfl rfl ?_
      refine wp_bipush (v := 122) dX5_next_89 (by decide) ?_
      refine wp_icmp_gt (tgt := 110) dX5_next_91 (by decide) (fun hc28 => ?_) (fun hc28 => ?_)
      · have h := ite_t hc28 h
        refine wp_iload_n dX5_next_110 rfl rfl ?_
        refine wp_bipush (v := 48) dX5_next_111 (by decide) ?_
        refine wp_icmp_lt (tgt := 146) dX5_next_113 (by decide) (fun hc29 => ?_) (fun hc29 => ?_)
        · have h := ite_t hc29 h
          refine wp_aload_n dX5_next_146 rfl rfl ?_
          refine wp_iload_n dX5_next_147 rfl rfl ?_
          refine wp_bipush (v := 59) dX5_next_148 (by decide) ?_
          refine wp_icmp_ne (tgt := 157) dX5_next_150 (by decide) (fun hc30 => ?_) (fun hc30 => ?_)
          · have h := ite_f hc30 h
            refine wp_iconst (v := 4) dX5_next_157 (by decide) ?_
            refine wp_putI dX5_next_158 (Or.inl fpX5_56) rfl ⟨rfl, rfl⟩ (sk28 hS) (sn28 hS) ?_
            refine wp_aload_n dX5_next_161 rfl rfl ?_
            refine wp_aload_n dX5_next_162 rfl rfl ?_
            refine wp_getI dX5_next_163 flX5_120 rfl (sk28 hS) (sn28 hS) ?_
            refine wp_iconst (v := 1) dX5_next_166 (by decide) ?_
            refine wp_iadd dX5_next_167 ?_
            refine wp_putI dX5_next_168 (Or.inl fpX5_31) rfl ⟨rfl, rfl⟩ (sk28 hS) (sn28 hS) ?_
            obtain ⟨I31, hx32, h⟩ := nm_inv h
            refine wp_nmI hx32 ?_
            exact wp_vret dX5_next_171 rfl (by obtain rfl := sji h; exact ⟨rfl, rfl, rfl, rfl⟩)
          · have h := ite_t hc30 h
            refine wp_iconst (v := 3) dX5_next_153 (by decide) ?_
            refine wp_goto (tgt := 158) dX5_next_154 (by decide) ?_
            refine wp_putI dX5_next_158 (Or.inl fpX5_56) rfl ⟨rfl, rfl⟩ (sk28 hS) (sn28 hS) ?_
            refine wp_aload_n dX5_next_161 rfl rfl ?_
            refine wp_aload_n dX5_next_162 rfl rfl ?_
            refine wp_getI dX5_next_163 flX5_120 rfl (sk28 hS) (sn28 hS) ?_
            refine wp_iconst (v := 1) dX5_next_166 (by decide) ?_
            refine wp_iadd dX5_next_167 ?_
            refine wp_putI dX5_next_168 (Or.inl fpX5_31) rfl ⟨rfl, rfl⟩ (sk28 hS) (sn28 hS) ?_
            obtain ⟨I33, hx34, h⟩ := nm_inv h
            refine wp_nmI hx34 ?_
            exact wp_vret dX5_next_171 rfl (by obtain rfl := sji h; exact ⟨rfl, rfl, rfl, rfl⟩)
        · have h := ite_f hc29 h
          refine wp_iload_n dX5_next_116 rfl rfl ?_
          refine wp_bipush (v := 57) dX5_next_117 (by decide) ?_
          refine wp_icmp_gt (tgt := 146) dX5_next_119 (by decide) (fun hc35 => ?_) (fun hc35 => ?_)
          · have h := ite_t hc35 h
            refine wp_aload_n dX5_next_146 rfl rfl ?_
            refine wp_iload_n dX5_next_147 rfl rfl ?_
            refine wp_bipush (v := 59) dX5_next_148 (by decide) ?_
            refine wp_icmp_ne (tgt := 157) dX5_next_150 (by decide) (fun hc36 => ?_) (fun hc36 => ?_)
            · have h := ite_f hc36 h
              refine wp_iconst (v := 4) dX5_next_157 (by decide) ?_
              refine wp_putI dX5_next_158 (Or.inl fpX5_56) rfl ⟨rfl, rfl⟩ (sk28 hS) (sn28 hS) ?_
              refine wp_aload_n dX5_next_161 rfl rfl ?_
              refine wp_aload_n dX5_next_162 rfl rfl ?_
              refine wp_getI dX5_next_163 flX5_120 rfl (sk28 hS) (sn28 hS) ?_
              refine wp_iconst (v := 1) dX5_next_166 (by decide) ?_
              refine wp_iadd dX5_next_167 ?_
              refine wp_putI dX5_next_168 (Or.inl fpX5_31) rfl ⟨rfl, rfl⟩ (sk28 hS) (sn28 hS) ?_
              obtain ⟨I37, hx38, h⟩ := nm_inv h
              refine wp_nmI hx38 ?_
              exact wp_vret dX5_next_171 rfl (by obtain rfl := sji h; exact ⟨rfl, rfl, rfl, rfl⟩)
            · have h := ite_t hc36 h
              refine wp_iconst (v := 3) dX5_next_153 (by decide) ?_
              refine wp_goto (tgt := 158) dX5_next_154 (by decide) ?_
              refine wp_putI dX5_next_158 (Or.inl fpX5_56) rfl ⟨rfl, rfl⟩ (sk28 hS) (sn28 hS) ?_
              refine wp_aload_n dX5_next_161 rfl rfl ?_
              refine wp_aload_n dX5_next_162 rfl rfl ?_
              refine wp_getI dX5_next_163 flX5_120 rfl (sk28 hS) (sn28 hS) ?_
              refine wp_iconst (v := 1) dX5_next_166 (by decide) ?_
              refine wp_iadd dX5_next_167 ?_
              refine wp_putI dX5_next_168 (Or.inl fpX5_31) rfl ⟨rfl, rfl⟩ (sk28 hS) (sn28 hS) ?_
              obtain ⟨I39, hx40, h⟩ := nm_inv h
              refine wp_nmI hx40 ?_
              exact wp_vret dX5_next_171 rfl (by obtain rfl := sji h; exact ⟨rfl, rfl, rfl, rfl⟩)
          · have h := ite_f hc35 h
            refine wp_aload_n dX5_next_122 rfl rfl ?_
            refine wp_iconst (v := 2) dX5_next_123 (by decide) ?_
            refine wp_putI dX5_next_124 (Or.inl fpX5_56) rfl ⟨rfl, rfl⟩ (sk28 hS) (sn28 hS) ?_
            refine wp_aload_n dX5_next_127 rfl rfl ?_
            refine wp_bipush (v := 48) dX5_next_128 (by decide) ?_
            refine wp_bipush (v := 57) dX5_next_130 (by decide) ?_
            obtain ⟨I41, hF42, h⟩ := obi h
            refine wp_callVv (ci := 5) (As := [.int 48, .int 57]) dX5_next_132 lbX5_endOfRow mlX5_134 imX5_endOfRow seX5_endOfRow vc5 (ct_X5_endOfRow N 0 (Nat.le_refl _) hS hB hF42) rfl rfl (Nat.le_trans (by decide) hd) (sk28 hS) (sn28 hS) (Nat.le_of_ble_eq_true rfl) (fun _ => ?_)
            refine wp_aload_n dX5_next_135 rfl rfl ?_
            refine wp_aload_n dX5_next_136 rfl rfl ?_
            obtain ⟨r43, hF44, h⟩ := obi h
            refine wp_callVi (ci := 5) (As := []) dX5_next_137 lbX5_valueOfRow mlX5_138 imX5_valueOfRow seX5_valueOfRow vc5 (ct_X5_valueOfRow N 1 (Nat.le_refl _) hS hB hF44) rfl rfl (Nat.le_trans (by decide) hd) (sk28 hS) (sn28 hS) (Nat.le_of_ble_eq_true rfl) (fun _ => ?_)
            refine wp_putI dX5_next_140 (Or.inl fpX5_123) rfl ⟨rfl, rfl⟩ (sk28 hS) (sn28 hS) ?_
            refine wp_goto (tgt := 171) dX5_next_143 (by decide) ?_
            exact wp_vret dX5_next_171 rfl (by obtain rfl := sji h; exact ⟨rfl, rfl, rfl, rfl⟩)
      · have h := ite_f hc28 h
        refine wp_aload_n dX5_next_94 rfl rfl ?_
        refine wp_iconst (v := 1) dX5_next_95 (by decide) ?_
        refine wp_putI dX5_next_96 (Or.inl fpX5_56) rfl ⟨rfl, rfl⟩ (sk28 hS) (sn28 hS) ?_
        refine wp_aload_n dX5_next_99 rfl rfl ?_
        refine wp_bipush (v := 97) dX5_next_100 (by decide) ?_
        refine wp_bipush (v := 122) dX5_next_102 (by decide) ?_
        obtain ⟨I45, hF46, h⟩ := obi h
        refine wp_callVv (ci := 5) (As := [.int 97, .int 122]) dX5_next_104 lbX5_endOfRow mlX5_134 imX5_endOfRow seX5_endOfRow vc5 (ct_X5_endOfRow N 0 (Nat.le_refl _) hS hB hF46) rfl rfl (Nat.le_trans (by decide) hd) (sk28 hS) (sn28 hS) (Nat.le_of_ble_eq_true rfl) (fun _ => ?_)
        refine wp_goto (tgt := 171) dX5_next_107 (by decide) ?_
        exact wp_vret dX5_next_171 rfl (by obtain rfl := sji h; exact ⟨rfl, rfl, rfl, rfl⟩)
  · have h := ite_f hc7 h
    refine wp_aload_n dX5_next_66 rfl rfl ?_
    refine wp_iconst (v := 0) dX5_next_67 (by decide) ?_
    refine wp_putI dX5_next_68 (Or.inl fpX5_56) rfl ⟨rfl, rfl⟩ (sk28 hS) (sn28 hS) ?_
    exact wp_vret dX5_next_71 rfl (by obtain rfl := sji h; exact ⟨rfl, rfl, rfl, rfl⟩)
def mX5_accept (N : Nat) (a2 : Int32) (I : gI) : Option (Int32 × gI) := if (I 28 6) = 0 then (Option.bind (mX5_next N I) (fun I2 => some (I 28 5, I2))) else (some (a2, I))
set_option maxHeartbeats 4000000 in
set_option maxRecDepth 100000 in
theorem ct_X5_accept (N : Nat) (d : Nat) (hd : 3 ≤ d) {S : gS} {J : gJ} (hS : Sh S) (hB : S.2.1 28 0 = some 1) {a2 : Int32} {I : gI} {r : Int32 × gI} (h : mX5_accept N a2 I = some r) : Ct yX5_accept (wsY yX5_accept cX5_accept 3 (some .int)) d 0 0 [.ref 28, .int a2] S I J (qE (.inl (some (.int r.1))) S r.2 J) := by
  refine Ct.of hF (fun _ _ _ _ _ => trivial) (by decide +kernel) (Nat.le_of_ble_eq_true rfl) ⟨Or.inl (sn28 hS), trivial, trivial⟩ ?_
  show Wp RX5 cX5_accept 3 (some .int) [] hF d 0 0 0 [(0, .ref 28), (1, .int a2)] [] S I J _
  unfold mX5_accept at h
  refine wp_aload_n dX5_accept_0 rfl rfl ?_
  refine wp_getI dX5_accept_1 flX5_28 rfl (sk28 hS) (sn28 hS) ?_
  refine wp_if_eq (tgt := 9) dX5_accept_4 (by decide) (fun hc1 => ?_) (fun hc1 => ?_)
  · have h := ite_t hc1 h
    refine wp_aload_n dX5_accept_9 rfl rfl ?_
    refine wp_getI dX5_accept_10 flX5_123 rfl (sk28 hS) (sn28 hS) ?_
    refine wp_istore_n (ls' := [(2, .int (I 28 5)), (0, .ref 28), (1, .int a2)]) dX5_accept_13 rfl (Nat.le_of_ble_eq_true rfl) rfl ?_
    refine wp_aload_n dX5_accept_14 rfl rfl ?_
    obtain ⟨I2, hF3, h⟩ := obi h
    refine wp_callVv (ci := 5) (As := []) dX5_accept_15 lbX5_next mlX5_39 imX5_next seX5_next vc5 (ct_X5_next N 2 (Nat.le_refl _) hS hB hF3) rfl rfl (Nat.le_trans (by decide) hd) (sk28 hS) (sn28 hS) (Nat.le_of_ble_eq_true rfl) (fun _ => ?_)
    refine wp_iload_n dX5_accept_18 rfl rfl ?_
    exact wp_iret dX5_accept_19 rfl (by obtain rfl := sji h; exact ⟨rfl, rfl, rfl, rfl⟩)
  · have h := ite_f hc1 h
    refine wp_iload_n dX5_accept_7 rfl rfl ?_
    exact wp_iret dX5_accept_8 rfl (by obtain rfl := sji h; exact ⟨rfl, rfl, rfl, rfl⟩)
def mX5_semicolon (N : Nat) (I : gI) : Option (gI) := Option.bind (if (I 28 2) = 3 then (some I) else (Option.bind (mX5_flag 1 I) (fun I3 => some I3)) : Option (gI)) (fun I1 => if (I1 28 6) = 0 then (Option.bind (mX5_next N I1) (fun I6 => some I6)) else (some I1))
set_option maxHeartbeats 4000000 in
set_option maxRecDepth 100000 in
theorem ct_X5_semicolon (N : Nat) (d : Nat) (hd : 3 ≤ d) {S : gS} {J : gJ} (hS : Sh S) (hB : S.2.1 28 0 = some 1) {I : gI} {r : gI} (h : mX5_semicolon N I = some r) : Ct yX5_semicolon (wsY yX5_semicolon cX5_semicolon 1 none) d 0 0 [.ref 28] S I J (qE (.inl none) S r J) := by
  refine Ct.of hF (fun _ _ _ _ _ => trivial) (by decide +kernel) (Nat.le_of_ble_eq_true rfl) ⟨Or.inl (sn28 hS), trivial⟩ ?_
  show Wp RX5 cX5_semicolon 1 none [] hF d 0 0 0 [(0, .ref 28)] [] S I J _
  unfold mX5_semicolon at h
  refine wp_aload_n dX5_semicolon_0 rfl rfl ?_
  refine wp_getI dX5_semicolon_1 flX5_56 rfl (sk28 hS) (sn28 hS) ?_
  refine wp_iconst (v := 3) dX5_semicolon_4 (by decide) ?_
  obtain ⟨I1, hh8, h⟩ := obi h
  have hJ : Wp RX5 cX5_semicolon 1 none [] hF d 0 0 13 [(0, .ref 28)] [] S I1 J (qE (.inl none) S r J) := by
    refine wp_aload_n dX5_semicolon_13 rfl rfl ?_
    refine wp_getI dX5_semicolon_14 flX5_28 rfl (sk28 hS) (sn28 hS) ?_
    refine wp_if_ne (tgt := 24) dX5_semicolon_17 (by decide) (fun hc5 => ?_) (fun hc5 => ?_)
    · have h := ite_f hc5 h
      exact wp_vret dX5_semicolon_24 rfl (by obtain rfl := sji h; exact ⟨rfl, rfl, rfl, rfl⟩)
    · have h := ite_t hc5 h
      refine wp_aload_n dX5_semicolon_20 rfl rfl ?_
      obtain ⟨I6, hF7, h⟩ := obi h
      refine wp_callVv (ci := 5) (As := []) dX5_semicolon_21 lbX5_next mlX5_39 imX5_next seX5_next vc5 (ct_X5_next N 2 (Nat.le_refl _) hS hB hF7) rfl rfl (Nat.le_trans (by decide) hd) (sk28 hS) (sn28 hS) (Nat.le_of_ble_eq_true rfl) (fun _ => ?_)
      exact wp_vret dX5_semicolon_24 rfl (by obtain rfl := sji h; exact ⟨rfl, rfl, rfl, rfl⟩)
  clear h
  have h := hh8
  clear hh8
  refine wp_icmp_eq (tgt := 13) dX5_semicolon_5 (by decide) (fun hc2 => ?_) (fun hc2 => ?_)
  · have h := ite_t hc2 h
    cases h
    exact wp_pick (ks := [0]) rfl hJ
  · have h := ite_f hc2 h
    refine wp_aload_n dX5_semicolon_8 rfl rfl ?_
    refine wp_iconst (v := 1) dX5_semicolon_9 (by decide) ?_
    obtain ⟨I3, hF4, h⟩ := obi h
    refine wp_callVv (ci := 5) (As := [.int 1]) dX5_semicolon_10 lbX5_flag mlX5_76 imX5_flag seX5_flag vc5 (ct_X5_flag 0 (Nat.le_refl _) hS hB hF4) rfl rfl (Nat.le_trans (by decide) hd) (sk28 hS) (sn28 hS) (Nat.le_of_ble_eq_true rfl) (fun _ => ?_)
    cases h
    exact wp_pick (ks := [0]) rfl hJ
def mX5_node (N : Nat) (a2 : Int32) (a3 : Int32) (I : gI) : Option (Int32 × gI) := Option.bind (if (I 28 2) = 2 then (if ((I 28 4) - (I 28 3)) ≤ 4 then (if (I 28 5) < a2 then (if (I 28 5) = a3 then (Option.bind (mX5_flag 4 I) (fun I6 => some I6)) else (some I)) else (Option.bind (mX5_flag 3 I) (fun I8 => some I8))) else (Option.bind (mX5_flag 2 I) (fun I10 => some I10))) else (Option.bind (mX5_flag 1 I) (fun I12 => some I12)) : Option (gI)) (fun I1 => Option.bind (mX5_accept N 0 I1) (fun (r14, I15) => some (r14, I15)))
set_option maxHeartbeats 4000000 in
set_option maxRecDepth 100000 in
theorem ct_X5_node (N : Nat) (d : Nat) (hd : 4 ≤ d) {S : gS} {J : gJ} (hS : Sh S) (hB : S.2.1 28 0 = some 1) {a2 : Int32} {a3 : Int32} {I : gI} {r : Int32 × gI} (h : mX5_node N a2 a3 I = some r) : Ct yX5_node (wsY yX5_node cX5_node 3 (some .int)) d 0 0 [.ref 28, .int a2, .int a3] S I J (qE (.inl (some (.int r.1))) S r.2 J) := by
  refine Ct.of hF (fun _ _ _ _ _ => trivial) (by decide +kernel) (Nat.le_of_ble_eq_true rfl) ⟨Or.inl (sn28 hS), trivial, trivial, trivial⟩ ?_
  show Wp RX5 cX5_node 3 (some .int) [] hF d 0 0 0 [(0, .ref 28), (1, .int a2), (2, .int a3)] [] S I J _
  unfold mX5_node at h
  refine wp_aload_n dX5_node_0 rfl rfl ?_
  refine wp_getI dX5_node_1 flX5_56 rfl (sk28 hS) (sn28 hS) ?_
  refine wp_iconst (v := 2) dX5_node_4 (by decide) ?_
  obtain ⟨I1, hh17, h⟩ := obi h
  have hJ : Wp RX5 cX5_node 3 (some .int) [] hF d 0 0 66 [(0, .ref 28)] [] S I1 J (qE (.inl (some (.int r.1))) S r.2 J) := by
    refine wp_aload_n dX5_node_66 rfl rfl ?_
    refine wp_iconst (v := 0) dX5_node_67 (by decide) ?_
    obtain ⟨⟨r14, I15⟩, hF16, h⟩ := obi h
    refine wp_callVi (ci := 5) (As := [.int 0]) dX5_node_68 lbX5_accept mlX5_126 imX5_accept seX5_accept vc5 (ct_X5_accept N 3 (Nat.le_refl _) hS hB hF16) rfl rfl (Nat.le_trans (by decide) hd) (sk28 hS) (sn28 hS) (Nat.le_of_ble_eq_true rfl) (fun _ => ?_)
    exact wp_iret dX5_node_71 rfl (by obtain rfl := sji h; exact ⟨rfl, rfl, rfl, rfl⟩)
  clear h
  have h := hh17
  clear hh17
  refine wp_icmp_eq (tgt := 16) dX5_node_5 (by decide) (fun hc2 => ?_) (fun hc2 => ?_)
  · have h := ite_t hc2 h
    refine wp_aload_n dX5_node_16 rfl rfl ?_
    refine wp_getI dX5_node_17 flX5_31 rfl (sk28 hS) (sn28 hS) ?_
    refine wp_aload_n dX5_node_20 rfl rfl ?_
    refine wp_getI dX5_node_21 flX5_120 rfl (sk28 hS) (sn28 hS) ?_
    refine wp_isub dX5_node_24 ?_
    refine wp_iconst (v := 4) dX5_node_25 (by decide) ?_
    refine wp_icmp_le (tgt := 37) dX5_node_26 (by decide) (fun hc3 => ?_) (fun hc3 => ?_)
    · have h := ite_t hc3 h
      refine wp_aload_n dX5_node_37 rfl rfl ?_
      refine wp_getI dX5_node_38 flX5_123 rfl (sk28 hS) (sn28 hS) ?_
      refine wp_iload_n dX5_node_41 rfl rfl ?_
      refine wp_icmp_lt (tgt := 53) dX5_node_42 (by decide) (fun hc4 => ?_) (fun hc4 => ?_)
      · have h := ite_t hc4 h
        refine wp_aload_n dX5_node_53 rfl rfl ?_
        refine wp_getI dX5_node_54 flX5_123 rfl (sk28 hS) (sn28 hS) ?_
        refine wp_iload_n dX5_node_57 rfl rfl ?_
        refine wp_icmp_ne (tgt := 66) dX5_node_58 (by decide) (fun hc5 => ?_) (fun hc5 => ?_)
        · have h := ite_f hc5 h
          cases h
          exact wp_pick (ks := [0]) rfl hJ
        · have h := ite_t hc5 h
          refine wp_aload_n dX5_node_61 rfl rfl ?_
          refine wp_iconst (v := 4) dX5_node_62 (by decide) ?_
          obtain ⟨I6, hF7, h⟩ := obi h
          refine wp_callVv (ci := 5) (As := [.int 4]) dX5_node_63 lbX5_flag mlX5_76 imX5_flag seX5_flag vc5 (ct_X5_flag 0 (Nat.le_refl _) hS hB hF7) rfl rfl (Nat.le_trans (by decide) hd) (sk28 hS) (sn28 hS) (Nat.le_of_ble_eq_true rfl) (fun _ => ?_)
          cases h
          exact wp_pick (ks := [0]) rfl hJ
      · have h := ite_f hc4 h
        refine wp_aload_n dX5_node_45 rfl rfl ?_
        refine wp_iconst (v := 3) dX5_node_46 (by decide) ?_
        obtain ⟨I8, hF9, h⟩ := obi h
        refine wp_callVv (ci := 5) (As := [.int 3]) dX5_node_47 lbX5_flag mlX5_76 imX5_flag seX5_flag vc5 (ct_X5_flag 0 (Nat.le_refl _) hS hB hF9) rfl rfl (Nat.le_trans (by decide) hd) (sk28 hS) (sn28 hS) (Nat.le_of_ble_eq_true rfl) (fun _ => ?_)
        refine wp_goto (tgt := 66) dX5_node_50 (by decide) ?_
        cases h
        exact wp_pick (ks := [0]) rfl hJ
    · have h := ite_f hc3 h
      refine wp_aload_n dX5_node_29 rfl rfl ?_
      refine wp_iconst (v := 2) dX5_node_30 (by decide) ?_
      obtain ⟨I10, hF11, h⟩ := obi h
      refine wp_callVv (ci := 5) (As := [.int 2]) dX5_node_31 lbX5_flag mlX5_76 imX5_flag seX5_flag vc5 (ct_X5_flag 0 (Nat.le_refl _) hS hB hF11) rfl rfl (Nat.le_trans (by decide) hd) (sk28 hS) (sn28 hS) (Nat.le_of_ble_eq_true rfl) (fun _ => ?_)
      refine wp_goto (tgt := 66) dX5_node_34 (by decide) ?_
      cases h
      exact wp_pick (ks := [0]) rfl hJ
  · have h := ite_f hc2 h
    refine wp_aload_n dX5_node_8 rfl rfl ?_
    refine wp_iconst (v := 1) dX5_node_9 (by decide) ?_
    obtain ⟨I12, hF13, h⟩ := obi h
    refine wp_callVv (ci := 5) (As := [.int 1]) dX5_node_10 lbX5_flag mlX5_76 imX5_flag seX5_flag vc5 (ct_X5_flag 0 (Nat.le_refl _) hS hB hF13) rfl rfl (Nat.le_trans (by decide) hd) (sk28 hS) (sn28 hS) (Nat.le_of_ble_eq_true rfl) (fun _ => ?_)
    refine wp_goto (tgt := 66) dX5_node_13 (by decide) ?_
    cases h
    exact wp_pick (ks := [0]) rfl hJ
def mX5_number (N : Nat) (a2 : Int32) (a3 : Int32) (I : gI) : Option (Int32 × gI) := Option.bind (if (I 28 2) = 2 then (if 4 < ((I 28 4) - (I 28 3)) then (Option.bind (mX5_flag 2 I) (fun I4 => some I4)) else (if (I 28 5) < a2 then (Option.bind (mX5_flag 2 I) (fun I7 => some I7)) else (if (I 28 5) ≤ a3 then (some I) else (Option.bind (mX5_flag 2 I) (fun I10 => some I10))))) else (Option.bind (mX5_flag 1 I) (fun I12 => some I12)) : Option (gI)) (fun I1 => Option.bind (mX5_accept N a2 I1) (fun (r14, I15) => some (r14, I15)))
set_option maxHeartbeats 4000000 in
set_option maxRecDepth 100000 in
theorem ct_X5_number (N : Nat) (d : Nat) (hd : 4 ≤ d) {S : gS} {J : gJ} (hS : Sh S) (hB : S.2.1 28 0 = some 1) {a2 : Int32} {a3 : Int32} {I : gI} {r : Int32 × gI} (h : mX5_number N a2 a3 I = some r) : Ct yX5_number (wsY yX5_number cX5_number 3 (some .int)) d 0 0 [.ref 28, .int a2, .int a3] S I J (qE (.inl (some (.int r.1))) S r.2 J) := by
  refine Ct.of hF (fun _ _ _ _ _ => trivial) (by decide +kernel) (Nat.le_of_ble_eq_true rfl) ⟨Or.inl (sn28 hS), trivial, trivial, trivial⟩ ?_
  show Wp RX5 cX5_number 3 (some .int) [] hF d 0 0 0 [(0, .ref 28), (1, .int a2), (2, .int a3)] [] S I J _
  unfold mX5_number at h
  refine wp_aload_n dX5_number_0 rfl rfl ?_
  refine wp_getI dX5_number_1 flX5_56 rfl (sk28 hS) (sn28 hS) ?_
  refine wp_iconst (v := 2) dX5_number_4 (by decide) ?_
  obtain ⟨I1, hh17, h⟩ := obi h
  have hJ : Wp RX5 cX5_number 3 (some .int) [] hF d 0 0 50 [(0, .ref 28), (1, .int a2)] [] S I1 J (qE (.inl (some (.int r.1))) S r.2 J) := by
    refine wp_aload_n dX5_number_50 rfl rfl ?_
    refine wp_iload_n dX5_number_51 rfl rfl ?_
    obtain ⟨⟨r14, I15⟩, hF16, h⟩ := obi h
    refine wp_callVi (ci := 5) (As := [.int a2]) dX5_number_52 lbX5_accept mlX5_126 imX5_accept seX5_accept vc5 (ct_X5_accept N 3 (Nat.le_refl _) hS hB hF16) rfl rfl (Nat.le_trans (by decide) hd) (sk28 hS) (sn28 hS) (Nat.le_of_ble_eq_true rfl) (fun _ => ?_)
    exact wp_iret dX5_number_55 rfl (by obtain rfl := sji h; exact ⟨rfl, rfl, rfl, rfl⟩)
  clear h
  have h := hh17
  clear hh17
  refine wp_icmp_eq (tgt := 16) dX5_number_5 (by decide) (fun hc2 => ?_) (fun hc2 => ?_)
  · have h := ite_t hc2 h
    refine wp_aload_n dX5_number_16 rfl rfl ?_
    refine wp_getI dX5_number_17 flX5_31 rfl (sk28 hS) (sn28 hS) ?_
    refine wp_aload_n dX5_number_20 rfl rfl ?_
    refine wp_getI dX5_number_21 flX5_120 rfl (sk28 hS) (sn28 hS) ?_
    refine wp_isub dX5_number_24 ?_
    refine wp_iconst (v := 4) dX5_number_25 (by decide) ?_
    refine wp_icmp_gt (tgt := 45) dX5_number_26 (by decide) (fun hc3 => ?_) (fun hc3 => ?_)
    · have h := ite_t hc3 h
      refine wp_aload_n dX5_number_45 rfl rfl ?_
      refine wp_iconst (v := 2) dX5_number_46 (by decide) ?_
      obtain ⟨I4, hF5, h⟩ := obi h
      refine wp_callVv (ci := 5) (As := [.int 2]) dX5_number_47 lbX5_flag mlX5_76 imX5_flag seX5_flag vc5 (ct_X5_flag 0 (Nat.le_refl _) hS hB hF5) rfl rfl (Nat.le_trans (by decide) hd) (sk28 hS) (sn28 hS) (Nat.le_of_ble_eq_true rfl) (fun _ => ?_)
      cases h
      exact wp_pick (ks := [0, 1]) rfl hJ
    · have h := ite_f hc3 h
      refine wp_aload_n dX5_number_29 rfl rfl ?_
      refine wp_getI dX5_number_30 flX5_123 rfl (sk28 hS) (sn28 hS) ?_
      refine wp_iload_n dX5_number_33 rfl rfl ?_
      refine wp_icmp_lt (tgt := 45) dX5_number_34 (by decide) (fun hc6 => ?_) (fun hc6 => ?_)
      · have h := ite_t hc6 h
        refine wp_aload_n dX5_number_45 rfl rfl ?_
        refine wp_iconst (v := 2) dX5_number_46 (by decide) ?_
        obtain ⟨I7, hF8, h⟩ := obi h
        refine wp_callVv (ci := 5) (As := [.int 2]) dX5_number_47 lbX5_flag mlX5_76 imX5_flag seX5_flag vc5 (ct_X5_flag 0 (Nat.le_refl _) hS hB hF8) rfl rfl (Nat.le_trans (by decide) hd) (sk28 hS) (sn28 hS) (Nat.le_of_ble_eq_true rfl) (fun _ => ?_)
        cases h
        exact wp_pick (ks := [0, 1]) rfl hJ
      · have h := ite_f hc6 h
        refine wp_aload_n dX5_number_37 rfl rfl ?_
        refine wp_getI dX5_number_38 flX5_123 rfl (sk28 hS) (sn28 hS) ?_
        refine wp_iload_n dX5_number_41 rfl rfl ?_
        refine wp_icmp_le (tgt := 50) dX5_number_42 (by decide) (fun hc9 => ?_) (fun hc9 => ?_)
        · have h := ite_t hc9 h
          cases h
          exact wp_pick (ks := [0, 1]) rfl hJ
        · have h := ite_f hc9 h
          refine wp_aload_n dX5_number_45 rfl rfl ?_
          refine wp_iconst (v := 2) dX5_number_46 (by decide) ?_
          obtain ⟨I10, hF11, h⟩ := obi h
          refine wp_callVv (ci := 5) (As := [.int 2]) dX5_number_47 lbX5_flag mlX5_76 imX5_flag seX5_flag vc5 (ct_X5_flag 0 (Nat.le_refl _) hS hB hF11) rfl rfl (Nat.le_trans (by decide) hd) (sk28 hS) (sn28 hS) (Nat.le_of_ble_eq_true rfl) (fun _ => ?_)
          cases h
          exact wp_pick (ks := [0, 1]) rfl hJ
  · have h := ite_f hc2 h
    refine wp_aload_n dX5_number_8 rfl rfl ?_
    refine wp_iconst (v := 1) dX5_number_9 (by decide) ?_
    obtain ⟨I12, hF13, h⟩ := obi h
    refine wp_callVv (ci := 5) (As := [.int 1]) dX5_number_10 lbX5_flag mlX5_76 imX5_flag seX5_flag vc5 (ct_X5_flag 0 (Nat.le_refl _) hS hB hF13) rfl rfl (Nat.le_trans (by decide) hd) (sk28 hS) (sn28 hS) (Nat.le_of_ble_eq_true rfl) (fun _ => ?_)
    refine wp_goto (tgt := 50) dX5_number_13 (by decide) ?_
    cases h
    exact wp_pick (ks := [0, 1]) rfl hJ
def mX5_readLink (N : Nat) (a3 : Int32) (I : gI) : Option (gI) := if a3 < 16 then (Option.bind (mX5_next N I) (fun I2 => Option.bind (mX5_node N (I2 15 0) (-1) I2) (fun (r4, I5) => ck a3 16 (Option.bind (mX5_node N ((upd2 I5 16 a3.toNatClampNeg r4) 15 0) ((upd2 I5 16 a3.toNatClampNeg r4) 16 a3.toNatClampNeg) (upd2 I5 16 a3.toNatClampNeg r4)) (fun (r8, I9) => Option.bind (mX5_number N 1 99 (upd2 I9 17 a3.toNatClampNeg r8)) (fun (r11, I12) => Option.bind (mX5_number N 1 99 (upd2 I12 18 a3.toNatClampNeg r11)) (fun (r14, I15) => Option.bind (if ((upd2 I15 19 a3.toNatClampNeg r14) 28 2) = 2 then (Option.bind (mX5_number N 0 15 (upd2 I15 19 a3.toNatClampNeg r14)) (fun (r20, I21) => some (r20, I21))) else (some (0, upd2 I15 19 a3.toNatClampNeg r14)) : Option (Int32 × gI)) (fun (x17, I18) => Option.bind (mX5_semicolon N (upd2 I18 20 a3.toNatClampNeg x17)) (fun I23 => some (upd2 I23 15 1 (a3 + 1))))))))))) else (Option.bind (mX5_flag 2 I) (fun I26 => some I26))
set_option maxHeartbeats 4000000 in
set_option maxRecDepth 100000 in
theorem ct_X5_readLink (N : Nat) (d : Nat) (hd : 5 ≤ d) {S : gS} {J : gJ} (hS : Sh S) (hB : S.2.1 28 0 = some 1) {a3 : Int32} {I : gI} {r : gI} (h : mX5_readLink N a3 I = some r) : Ct yX5_readLink (wsY yX5_readLink cX5_readLink 3 none) d 0 0 [.ref 28, .ref 15, .int a3] S I J (qE (.inl none) S r J) := by
  refine Ct.of hF (fun _ _ _ _ _ => trivial) (by decide +kernel) (Nat.le_of_ble_eq_true rfl) ⟨Or.inl (sn28 hS), Or.inl (sn15 hS), trivial, trivial⟩ ?_
  show Wp RX5 cX5_readLink 3 none [] hF d 0 0 0 [(0, .ref 28), (1, .ref 15), (2, .int a3)] [] S I J _
  unfold mX5_readLink at h
  refine wp_iload_n dX5_readLink_0 rfl rfl ?_
  refine wp_bipush (v := 16) dX5_readLink_1 (by decide) ?_
  refine wp_icmp_lt (tgt := 12) dX5_readLink_3 (by decide) (fun hc1 => ?_) (fun hc1 => ?_)
  · have h := ite_t hc1 h
    refine wp_aload_n dX5_readLink_12 rfl rfl ?_
    obtain ⟨I2, hF3, h⟩ := obi h
    refine wp_callVv (ci := 5) (As := []) dX5_readLink_13 lbX5_next mlX5_39 imX5_next seX5_next vc5 (ct_X5_next N 2 (Nat.le_refl _) hS hB hF3) rfl rfl (Nat.le_trans (by decide) hd) (sk28 hS) (sn28 hS) (Nat.le_of_ble_eq_true rfl) (fun _ => ?_)
    refine wp_aload_n dX5_readLink_16 rfl rfl ?_
    refine wp_getR dX5_readLink_17 flX5_80 rfl (sk15 hS) (sn15 hS) (sr15_3 hS) ?_
    refine wp_iload_n dX5_readLink_20 rfl rfl ?_
    refine wp_aload_n dX5_readLink_21 rfl rfl ?_
    refine wp_aload_n dX5_readLink_22 rfl rfl ?_
    refine wp_getI dX5_readLink_23 flX5_51 rfl (sk15 hS) (sn15 hS) ?_
    refine wp_iconst (v := (-1)) dX5_readLink_26 (by decide) ?_
    obtain ⟨⟨r4, I5⟩, hF6, h⟩ := obi h
    refine wp_callVi (ci := 5) (As := [.int (I2 15 0), .int (-1)]) dX5_readLink_27 lbX5_node mlX5_84 imX5_node seX5_node vc5 (ct_X5_node N 4 (Nat.le_refl _) hS hB hF6) rfl rfl (Nat.le_trans (by decide) hd) (sk28 hS) (sn28 hS) (Nat.le_of_ble_eq_true rfl) (fun _ => ?_)
    obtain ⟨hb7, h⟩ := ck_inv h
    refine wp_iast dX5_readLink_30 (sk16 hS) (sn16 hS) hb7 ?_
    refine wp_aload_n dX5_readLink_31 rfl rfl ?_
    refine wp_getR dX5_readLink_32 flX5_87 rfl (sk15 hS) (sn15 hS) (sr15_4 hS) ?_
    refine wp_iload_n dX5_readLink_35 rfl rfl ?_
    refine wp_aload_n dX5_readLink_36 rfl rfl ?_
    refine wp_aload_n dX5_readLink_37 rfl rfl ?_
    refine wp_getI dX5_readLink_38 flX5_51 rfl (sk15 hS) (sn15 hS) ?_
    refine wp_aload_n dX5_readLink_41 rfl rfl ?_
    refine wp_getR dX5_readLink_42 flX5_80 rfl (sk15 hS) (sn15 hS) (sr15_3 hS) ?_
    refine wp_iload_n dX5_readLink_45 rfl rfl ?_
    refine wp_iald dX5_readLink_46 (sk16 hS) (sn16 hS) hb7 ?_
    obtain ⟨⟨r8, I9⟩, hF10, h⟩ := obi h
    refine wp_callVi (ci := 5) (As := [.int ((upd2 I5 16 a3.toNatClampNeg r4) 15 0), .int ((upd2 I5 16 a3.toNatClampNeg r4) 16 a3.toNatClampNeg)]) dX5_readLink_47 lbX5_node mlX5_84 imX5_node seX5_node vc5 (ct_X5_node N 4 (Nat.le_refl _) hS hB hF10) rfl rfl (Nat.le_trans (by decide) hd) (sk28 hS) (sn28 hS) (Nat.le_of_ble_eq_true rfl) (fun _ => ?_)
    refine wp_iast dX5_readLink_50 (sk17 hS) (sn17 hS) hb7 ?_
    refine wp_aload_n dX5_readLink_51 rfl rfl ?_
    refine wp_getR dX5_readLink_52 flX5_90 rfl (sk15 hS) (sn15 hS) (sr15_5 hS) ?_
    refine wp_iload_n dX5_readLink_55 rfl rfl ?_
    refine wp_aload_n dX5_readLink_56 rfl rfl ?_
    refine wp_iconst (v := 1) dX5_readLink_57 (by decide) ?_
    refine wp_bipush (v := 99) dX5_readLink_58 (by decide) ?_
    obtain ⟨⟨r11, I12⟩, hF13, h⟩ := obi h
    refine wp_callVi (ci := 5) (As := [.int 1, .int 99]) dX5_readLink_60 lbX5_number mlX5_48 imX5_number seX5_number vc5 (ct_X5_number N 4 (Nat.le_refl _) hS hB hF13) rfl rfl (Nat.le_trans (by decide) hd) (sk28 hS) (sn28 hS) (Nat.le_of_ble_eq_true rfl) (fun _ => ?_)
    refine wp_iast dX5_readLink_63 (sk18 hS) (sn18 hS) hb7 ?_
    refine wp_aload_n dX5_readLink_64 rfl rfl ?_
    refine wp_getR dX5_readLink_65 flX5_93 rfl (sk15 hS) (sn15 hS) (sr15_6 hS) ?_
    refine wp_iload_n dX5_readLink_68 rfl rfl ?_
    refine wp_aload_n dX5_readLink_69 rfl rfl ?_
    refine wp_iconst (v := 1) dX5_readLink_70 (by decide) ?_
    refine wp_bipush (v := 99) dX5_readLink_71 (by decide) ?_
    obtain ⟨⟨r14, I15⟩, hF16, h⟩ := obi h
    refine wp_callVi (ci := 5) (As := [.int 1, .int 99]) dX5_readLink_73 lbX5_number mlX5_48 imX5_number seX5_number vc5 (ct_X5_number N 4 (Nat.le_refl _) hS hB hF16) rfl rfl (Nat.le_trans (by decide) hd) (sk28 hS) (sn28 hS) (Nat.le_of_ble_eq_true rfl) (fun _ => ?_)
    refine wp_iast dX5_readLink_76 (sk19 hS) (sn19 hS) hb7 ?_
    refine wp_aload_n dX5_readLink_77 rfl rfl ?_
    refine wp_getR dX5_readLink_78 flX5_96 rfl (sk15 hS) (sn15 hS) (sr15_7 hS) ?_
    refine wp_iload_n dX5_readLink_81 rfl rfl ?_
    refine wp_aload_n dX5_readLink_82 rfl rfl ?_
    refine wp_getI dX5_readLink_83 flX5_56 rfl (sk28 hS) (sn28 hS) ?_
    refine wp_iconst (v := 2) dX5_readLink_86 (by decide) ?_
    obtain ⟨⟨x17, I18⟩, hh25, h⟩ := obi h
    have hJ : Wp RX5 cX5_readLink 3 none [] hF d 0 0 101 [(0, .ref 28), (1, .ref 15), (2, .int a3)] [.int x17, .int a3, .ref 20] S I18 J (qE (.inl none) S r J) := by
      refine wp_iast dX5_readLink_101 (sk20 hS) (sn20 hS) hb7 ?_
      refine wp_aload_n dX5_readLink_102 rfl rfl ?_
      obtain ⟨I23, hF24, h⟩ := obi h
      refine wp_callVv (ci := 5) (As := []) dX5_readLink_103 lbX5_semicolon mlX5_53 imX5_semicolon seX5_semicolon vc5 (ct_X5_semicolon N 3 (Nat.le_refl _) hS hB hF24) rfl rfl (Nat.le_trans (by decide) hd) (sk28 hS) (sn28 hS) (Nat.le_of_ble_eq_true rfl) (fun _ => ?_)
      refine wp_aload_n dX5_readLink_106 rfl rfl ?_
      refine wp_iload_n dX5_readLink_107 rfl rfl ?_
      refine wp_iconst (v := 1) dX5_readLink_108 (by decide) ?_
      refine wp_iadd dX5_readLink_109 ?_
      refine wp_putI dX5_readLink_110 (Or.inl fpX5_61) rfl ⟨rfl, rfl⟩ (sk15 hS) (sn15 hS) ?_
      exact wp_vret dX5_readLink_113 rfl (by obtain rfl := sji h; exact ⟨rfl, rfl, rfl, rfl⟩)
    clear h
    have h := hh25
    clear hh25
    refine wp_icmp_ne (tgt := 100) dX5_readLink_87 (by decide) (fun hc19 => ?_) (fun hc19 => ?_)
    · have h := ite_f hc19 h
      refine wp_iconst (v := 0) dX5_readLink_100 (by decide) ?_
      cases h
      exact wp_pick (ks := [0, 1, 2]) rfl hJ
    · have h := ite_t hc19 h
      refine wp_aload_n dX5_readLink_90 rfl rfl ?_
      refine wp_iconst (v := 0) dX5_readLink_91 (by decide) ?_
      refine wp_bipush (v := 15) dX5_readLink_92 (by decide) ?_
      obtain ⟨⟨r20, I21⟩, hF22, h⟩ := obi h
      refine wp_callVi (ci := 5) (As := [.int 0, .int 15]) dX5_readLink_94 lbX5_number mlX5_48 imX5_number seX5_number vc5 (ct_X5_number N 4 (Nat.le_refl _) hS hB hF22) rfl rfl (Nat.le_trans (by decide) hd) (sk28 hS) (sn28 hS) (Nat.le_of_ble_eq_true rfl) (fun _ => ?_)
      refine wp_goto (tgt := 101) dX5_readLink_97 (by decide) ?_
      cases h
      exact wp_pick (ks := [0, 1, 2]) rfl hJ
  · have h := ite_f hc1 h
    refine wp_aload_n dX5_readLink_6 rfl rfl ?_
    refine wp_iconst (v := 2) dX5_readLink_7 (by decide) ?_
    obtain ⟨I26, hF27, h⟩ := obi h
    refine wp_callVv (ci := 5) (As := [.int 2]) dX5_readLink_8 lbX5_flag mlX5_76 imX5_flag seX5_flag vc5 (ct_X5_flag 0 (Nat.le_refl _) hS hB hF27) rfl rfl (Nat.le_trans (by decide) hd) (sk28 hS) (sn28 hS) (Nat.le_of_ble_eq_true rfl) (fun _ => ?_)
    exact wp_vret dX5_readLink_11 rfl (by obtain rfl := sji h; exact ⟨rfl, rfl, rfl, rfl⟩)
def mX5_readTunnel (N : Nat) (a3 : Int32) (I : gI) : Option (gI) := if a3 < 9 then (Option.bind (mX5_next N I) (fun I2 => Option.bind (mX5_node N (I2 15 0) (-1) I2) (fun (r4, I5) => ck a3 9 (Option.bind (mX5_node N ((upd2 I5 21 a3.toNatClampNeg r4) 15 0) ((upd2 I5 21 a3.toNatClampNeg r4) 21 a3.toNatClampNeg) (upd2 I5 21 a3.toNatClampNeg r4)) (fun (r8, I9) => Option.bind (mX5_number N 1 99 (upd2 I9 22 a3.toNatClampNeg r8)) (fun (r11, I12) => Option.bind (mX5_number N 0 7 (upd2 I12 23 a3.toNatClampNeg r11)) (fun (r14, I15) => Option.bind (mX5_number N 0 ((upd2 I15 24 a3.toNatClampNeg r14) 24 a3.toNatClampNeg) (upd2 I15 24 a3.toNatClampNeg r14)) (fun (r17, I18) => Option.bind (if ((upd2 I18 25 a3.toNatClampNeg r17) 28 2) = 2 then (some 1) else (some 0) : Option (Int32)) (fun x20 => Option.bind (if x20 = 0 then (some (0, upd2 I18 25 a3.toNatClampNeg r17)) else (Option.bind (mX5_number N 0 15 (upd2 I18 25 a3.toNatClampNeg r17)) (fun (r25, I26) => some (r25, I26))) : Option (Int32 × gI)) (fun (x22, I23) => Option.bind (if x20 = 0 then (some (7, upd2 I23 26 a3.toNatClampNeg x22)) else (if ((upd2 I23 26 a3.toNatClampNeg x22) 28 2) = 2 then (Option.bind (mX5_number N 1 7 (upd2 I23 26 a3.toNatClampNeg x22)) (fun (r32, I33) => some (r32, I33))) else (some (7, upd2 I23 26 a3.toNatClampNeg x22))) : Option (Int32 × gI)) (fun (x28, I29) => Option.bind (mX5_semicolon N (upd2 I29 27 a3.toNatClampNeg x28)) (fun I35 => some (upd2 I35 15 2 (a3 + 1)))))))))))))) else (Option.bind (mX5_flag 2 I) (fun I40 => some I40))
set_option maxHeartbeats 4000000 in
set_option maxRecDepth 100000 in
theorem ct_X5_readTunnel (N : Nat) (d : Nat) (hd : 5 ≤ d) {S : gS} {J : gJ} (hS : Sh S) (hB : S.2.1 28 0 = some 1) {a3 : Int32} {I : gI} {r : gI} (h : mX5_readTunnel N a3 I = some r) : Ct yX5_readTunnel (wsY yX5_readTunnel cX5_readTunnel 4 none) d 0 0 [.ref 28, .ref 15, .int a3] S I J (qE (.inl none) S r J) := by
  refine Ct.of hF (fun _ _ _ _ _ => trivial) (by decide +kernel) (Nat.le_of_ble_eq_true rfl) ⟨Or.inl (sn28 hS), Or.inl (sn15 hS), trivial, trivial⟩ ?_
  show Wp RX5 cX5_readTunnel 4 none [] hF d 0 0 0 [(0, .ref 28), (1, .ref 15), (2, .int a3)] [] S I J _
  unfold mX5_readTunnel at h
  refine wp_iload_n dX5_readTunnel_0 rfl rfl ?_
  refine wp_bipush (v := 9) dX5_readTunnel_1 (by decide) ?_
  refine wp_icmp_lt (tgt := 12) dX5_readTunnel_3 (by decide) (fun hc1 => ?_) (fun hc1 => ?_)
  · have h := ite_t hc1 h
    refine wp_aload_n dX5_readTunnel_12 rfl rfl ?_
    obtain ⟨I2, hF3, h⟩ := obi h
    refine wp_callVv (ci := 5) (As := []) dX5_readTunnel_13 lbX5_next mlX5_39 imX5_next seX5_next vc5 (ct_X5_next N 2 (Nat.le_refl _) hS hB hF3) rfl rfl (Nat.le_trans (by decide) hd) (sk28 hS) (sn28 hS) (Nat.le_of_ble_eq_true rfl) (fun _ => ?_)
    refine wp_aload_n dX5_readTunnel_16 rfl rfl ?_
    refine wp_getR dX5_readTunnel_17 flX5_99 rfl (sk15 hS) (sn15 hS) (sr15_8 hS) ?_
    refine wp_iload_n dX5_readTunnel_20 rfl rfl ?_
    refine wp_aload_n dX5_readTunnel_21 rfl rfl ?_
    refine wp_aload_n dX5_readTunnel_22 rfl rfl ?_
    refine wp_getI dX5_readTunnel_23 flX5_51 rfl (sk15 hS) (sn15 hS) ?_
    refine wp_iconst (v := (-1)) dX5_readTunnel_26 (by decide) ?_
    obtain ⟨⟨r4, I5⟩, hF6, h⟩ := obi h
    refine wp_callVi (ci := 5) (As := [.int (I2 15 0), .int (-1)]) dX5_readTunnel_27 lbX5_node mlX5_84 imX5_node seX5_node vc5 (ct_X5_node N 4 (Nat.le_refl _) hS hB hF6) rfl rfl (Nat.le_trans (by decide) hd) (sk28 hS) (sn28 hS) (Nat.le_of_ble_eq_true rfl) (fun _ => ?_)
    obtain ⟨hb7, h⟩ := ck_inv h
    refine wp_iast dX5_readTunnel_30 (sk21 hS) (sn21 hS) hb7 ?_
    refine wp_aload_n dX5_readTunnel_31 rfl rfl ?_
    refine wp_getR dX5_readTunnel_32 flX5_102 rfl (sk15 hS) (sn15 hS) (sr15_9 hS) ?_
    refine wp_iload_n dX5_readTunnel_35 rfl rfl ?_
    refine wp_aload_n dX5_readTunnel_36 rfl rfl ?_
    refine wp_aload_n dX5_readTunnel_37 rfl rfl ?_
    refine wp_getI dX5_readTunnel_38 flX5_51 rfl (sk15 hS) (sn15 hS) ?_
    refine wp_aload_n dX5_readTunnel_41 rfl rfl ?_
    refine wp_getR dX5_readTunnel_42 flX5_99 rfl (sk15 hS) (sn15 hS) (sr15_8 hS) ?_
    refine wp_iload_n dX5_readTunnel_45 rfl rfl ?_
    refine wp_iald dX5_readTunnel_46 (sk21 hS) (sn21 hS) hb7 ?_
    obtain ⟨⟨r8, I9⟩, hF10, h⟩ := obi h
    refine wp_callVi (ci := 5) (As := [.int ((upd2 I5 21 a3.toNatClampNeg r4) 15 0), .int ((upd2 I5 21 a3.toNatClampNeg r4) 21 a3.toNatClampNeg)]) dX5_readTunnel_47 lbX5_node mlX5_84 imX5_node seX5_node vc5 (ct_X5_node N 4 (Nat.le_refl _) hS hB hF10) rfl rfl (Nat.le_trans (by decide) hd) (sk28 hS) (sn28 hS) (Nat.le_of_ble_eq_true rfl) (fun _ => ?_)
    refine wp_iast dX5_readTunnel_50 (sk22 hS) (sn22 hS) hb7 ?_
    refine wp_aload_n dX5_readTunnel_51 rfl rfl ?_
    refine wp_getR dX5_readTunnel_52 flX5_105 rfl (sk15 hS) (sn15 hS) (sr15_10 hS) ?_
    refine wp_iload_n dX5_readTunnel_55 rfl rfl ?_
    refine wp_aload_n dX5_readTunnel_56 rfl rfl ?_
    refine wp_iconst (v := 1) dX5_readTunnel_57 (by decide) ?_
    refine wp_bipush (v := 99) dX5_readTunnel_58 (by decide) ?_
    obtain ⟨⟨r11, I12⟩, hF13, h⟩ := obi h
    refine wp_callVi (ci := 5) (As := [.int 1, .int 99]) dX5_readTunnel_60 lbX5_number mlX5_48 imX5_number seX5_number vc5 (ct_X5_number N 4 (Nat.le_refl _) hS hB hF13) rfl rfl (Nat.le_trans (by decide) hd) (sk28 hS) (sn28 hS) (Nat.le_of_ble_eq_true rfl) (fun _ => ?_)
    refine wp_iast dX5_readTunnel_63 (sk23 hS) (sn23 hS) hb7 ?_
    refine wp_aload_n dX5_readTunnel_64 rfl rfl ?_
    refine wp_getR dX5_readTunnel_65 flX5_108 rfl (sk15 hS) (sn15 hS) (sr15_11 hS) ?_
    refine wp_iload_n dX5_readTunnel_68 rfl rfl ?_
    refine wp_aload_n dX5_readTunnel_69 rfl rfl ?_
    refine wp_iconst (v := 0) dX5_readTunnel_70 (by decide) ?_
    refine wp_bipush (v := 7) dX5_readTunnel_71 (by decide) ?_
    obtain ⟨⟨r14, I15⟩, hF16, h⟩ := obi h
    refine wp_callVi (ci := 5) (As := [.int 0, .int 7]) dX5_readTunnel_73 lbX5_number mlX5_48 imX5_number seX5_number vc5 (ct_X5_number N 4 (Nat.le_refl _) hS hB hF16) rfl rfl (Nat.le_trans (by decide) hd) (sk28 hS) (sn28 hS) (Nat.le_of_ble_eq_true rfl) (fun _ => ?_)
    refine wp_iast dX5_readTunnel_76 (sk24 hS) (sn24 hS) hb7 ?_
    refine wp_aload_n dX5_readTunnel_77 rfl rfl ?_
    refine wp_getR dX5_readTunnel_78 flX5_111 rfl (sk15 hS) (sn15 hS) (sr15_12 hS) ?_
    refine wp_iload_n dX5_readTunnel_81 rfl rfl ?_
    refine wp_aload_n dX5_readTunnel_82 rfl rfl ?_
    refine wp_iconst (v := 0) dX5_readTunnel_83 (by decide) ?_
    refine wp_aload_n dX5_readTunnel_84 rfl rfl ?_
    refine wp_getR dX5_readTunnel_85 flX5_108 rfl (sk15 hS) (sn15 hS) (sr15_11 hS) ?_
    refine wp_iload_n dX5_readTunnel_88 rfl rfl ?_
    refine wp_iald dX5_readTunnel_89 (sk24 hS) (sn24 hS) hb7 ?_
    obtain ⟨⟨r17, I18⟩, hF19, h⟩ := obi h
    refine wp_callVi (ci := 5) (As := [.int 0, .int ((upd2 I15 24 a3.toNatClampNeg r14) 24 a3.toNatClampNeg)]) dX5_readTunnel_90 lbX5_number mlX5_48 imX5_number seX5_number vc5 (ct_X5_number N 4 (Nat.le_refl _) hS hB hF19) rfl rfl (Nat.le_trans (by decide) hd) (sk28 hS) (sn28 hS) (Nat.le_of_ble_eq_true rfl) (fun _ => ?_)
    refine wp_iast dX5_readTunnel_93 (sk25 hS) (sn25 hS) hb7 ?_
    refine wp_aload_n dX5_readTunnel_94 rfl rfl ?_
    refine wp_getI dX5_readTunnel_95 flX5_56 rfl (sk28 hS) (sn28 hS) ?_
    refine wp_iconst (v := 2) dX5_readTunnel_98 (by decide) ?_
    obtain ⟨x20, hh39, h⟩ := obi h
    have hJ : Wp RX5 cX5_readTunnel 4 none [] hF d 0 0 107 [(0, .ref 28), (1, .ref 15), (2, .int a3)] [.int x20] S (upd2 I18 25 a3.toNatClampNeg r17) J (qE (.inl none) S r J) := by
      refine wp_istore_n (ls' := [(3, .int x20), (0, .ref 28), (1, .ref 15), (2, .int a3)]) dX5_readTunnel_107 rfl (Nat.le_of_ble_eq_true rfl) rfl ?_
      refine wp_aload_n dX5_readTunnel_108 rfl rfl ?_
      refine wp_getR dX5_readTunnel_109 flX5_114 rfl (sk15 hS) (sn15 hS) (sr15_13 hS) ?_
      refine wp_iload_n dX5_readTunnel_112 rfl rfl ?_
      refine wp_iload_n dX5_readTunnel_113 rfl rfl ?_
      obtain ⟨⟨x22, I23⟩, hh38, h⟩ := obi h
      have hJ : Wp RX5 cX5_readTunnel 4 none [] hF d 0 0 128 [(0, .ref 28), (1, .ref 15), (2, .int a3), (3, .int x20)] [.int x22, .int a3, .ref 26] S I23 J (qE (.inl none) S r J) := by
        refine wp_iast dX5_readTunnel_128 (sk26 hS) (sn26 hS) hb7 ?_
        refine wp_aload_n dX5_readTunnel_129 rfl rfl ?_
        refine wp_getR dX5_readTunnel_130 flX5_117 rfl (sk15 hS) (sn15 hS) (sr15_14 hS) ?_
        refine wp_iload_n dX5_readTunnel_133 rfl rfl ?_
        refine wp_iload_n dX5_readTunnel_134 rfl rfl ?_
        obtain ⟨⟨x28, I29⟩, hh37, h⟩ := obi h
        have hJ : Wp RX5 cX5_readTunnel 4 none [] hF d 0 0 158 [(0, .ref 28), (1, .ref 15), (2, .int a3)] [.int x28, .int a3, .ref 27] S I29 J (qE (.inl none) S r J) := by
          refine wp_iast dX5_readTunnel_158 (sk27 hS) (sn27 hS) hb7 ?_
          refine wp_aload_n dX5_readTunnel_159 rfl rfl ?_
          obtain ⟨I35, hF36, h⟩ := obi h
          refine wp_callVv (ci := 5) (As := []) dX5_readTunnel_160 lbX5_semicolon mlX5_53 imX5_semicolon seX5_semicolon vc5 (ct_X5_semicolon N 3 (Nat.le_refl _) hS hB hF36) rfl rfl (Nat.le_trans (by decide) hd) (sk28 hS) (sn28 hS) (Nat.le_of_ble_eq_true rfl) (fun _ => ?_)
          refine wp_aload_n dX5_readTunnel_163 rfl rfl ?_
          refine wp_iload_n dX5_readTunnel_164 rfl rfl ?_
          refine wp_iconst (v := 1) dX5_readTunnel_165 (by decide) ?_
          refine wp_iadd dX5_readTunnel_166 ?_
          refine wp_putI dX5_readTunnel_167 (Or.inl fpX5_70) rfl ⟨rfl, rfl⟩ (sk15 hS) (sn15 hS) ?_
          exact wp_vret dX5_readTunnel_170 rfl (by obtain rfl := sji h; exact ⟨rfl, rfl, rfl, rfl⟩)
        clear h
        have h := hh37
        clear hh37
        refine wp_if_eq (tgt := 156) dX5_readTunnel_135 (by decide) (fun hc30 => ?_) (fun hc30 => ?_)
        · have h := ite_t hc30 h
          refine wp_bipush (v := 7) dX5_readTunnel_156 (by decide) ?_
          cases h
          exact wp_pick (ks := [0, 1, 2]) rfl hJ
        · have h := ite_f hc30 h
          refine wp_aload_n dX5_readTunnel_138 rfl rfl ?_
          refine wp_getI dX5_readTunnel_139 flX5_56 rfl (sk28 hS) (sn28 hS) ?_
          refine wp_iconst (v := 2) dX5_readTunnel_142 (by decide) ?_
          refine wp_icmp_ne (tgt := 156) dX5_readTunnel_143 (by decide) (fun hc31 => ?_) (fun hc31 => ?_)
          · have h := ite_f hc31 h
            refine wp_bipush (v := 7) dX5_readTunnel_156 (by decide) ?_
            cases h
            exact wp_pick (ks := [0, 1, 2]) rfl hJ
          · have h := ite_t hc31 h
            refine wp_aload_n dX5_readTunnel_146 rfl rfl ?_
            refine wp_iconst (v := 1) dX5_readTunnel_147 (by decide) ?_
            refine wp_bipush (v := 7) dX5_readTunnel_148 (by decide) ?_
            obtain ⟨⟨r32, I33⟩, hF34, h⟩ := obi h
            refine wp_callVi (ci := 5) (As := [.int 1, .int 7]) dX5_readTunnel_150 lbX5_number mlX5_48 imX5_number seX5_number vc5 (ct_X5_number N 4 (Nat.le_refl _) hS hB hF34) rfl rfl (Nat.le_trans (by decide) hd) (sk28 hS) (sn28 hS) (Nat.le_of_ble_eq_true rfl) (fun _ => ?_)
            refine wp_goto (tgt := 158) dX5_readTunnel_153 (by decide) ?_
            cases h
            exact wp_pick (ks := [0, 1, 2]) rfl hJ
      clear h
      have h := hh38
      clear hh38
      refine wp_if_eq (tgt := 127) dX5_readTunnel_114 (by decide) (fun hc24 => ?_) (fun hc24 => ?_)
      · have h := ite_t hc24 h
        refine wp_iconst (v := 0) dX5_readTunnel_127 (by decide) ?_
        cases h
        exact wp_pick (ks := [1, 2, 3, 0]) rfl hJ
      · have h := ite_f hc24 h
        refine wp_aload_n dX5_readTunnel_117 rfl rfl ?_
        refine wp_iconst (v := 0) dX5_readTunnel_118 (by decide) ?_
        refine wp_bipush (v := 15) dX5_readTunnel_119 (by decide) ?_
        obtain ⟨⟨r25, I26⟩, hF27, h⟩ := obi h
        refine wp_callVi (ci := 5) (As := [.int 0, .int 15]) dX5_readTunnel_121 lbX5_number mlX5_48 imX5_number seX5_number vc5 (ct_X5_number N 4 (Nat.le_refl _) hS hB hF27) rfl rfl (Nat.le_trans (by decide) hd) (sk28 hS) (sn28 hS) (Nat.le_of_ble_eq_true rfl) (fun _ => ?_)
        refine wp_goto (tgt := 128) dX5_readTunnel_124 (by decide) ?_
        cases h
        exact wp_pick (ks := [1, 2, 3, 0]) rfl hJ
    clear h
    have h := hh39
    clear hh39
    refine wp_icmp_ne (tgt := 106) dX5_readTunnel_99 (by decide) (fun hc21 => ?_) (fun hc21 => ?_)
    · have h := ite_f hc21 h
      refine wp_iconst (v := 0) dX5_readTunnel_106 (by decide) ?_
      cases h
      exact wp_pick (ks := [0, 1, 2]) rfl hJ
    · have h := ite_t hc21 h
      refine wp_iconst (v := 1) dX5_readTunnel_102 (by decide) ?_
      refine wp_goto (tgt := 107) dX5_readTunnel_103 (by decide) ?_
      cases h
      exact wp_pick (ks := [0, 1, 2]) rfl hJ
  · have h := ite_f hc1 h
    refine wp_aload_n dX5_readTunnel_6 rfl rfl ?_
    refine wp_iconst (v := 2) dX5_readTunnel_7 (by decide) ?_
    obtain ⟨I40, hF41, h⟩ := obi h
    refine wp_callVv (ci := 5) (As := [.int 2]) dX5_readTunnel_8 lbX5_flag mlX5_76 imX5_flag seX5_flag vc5 (ct_X5_flag 0 (Nat.le_refl _) hS hB hF41) rfl rfl (Nat.le_trans (by decide) hd) (sk28 hS) (sn28 hS) (Nat.le_of_ble_eq_true rfl) (fun _ => ?_)
    exact wp_vret dX5_readTunnel_11 rfl (by obtain rfl := sji h; exact ⟨rfl, rfl, rfl, rfl⟩)
def mX10_putBytes_3 (k1 : Int32) : Nat → Int32 → gI → Option (gI)
  | 0, _, _ => none
  | n + 1, v2, I => if v2 < 0 then (some I) else (if 700 ≤ (I 0 1) then (some I) else (ck (I 0 1) 700 (nm (upd2 I 1 (I 0 1).toNatClampNeg (vp_nar .byte ((ushr k1 v2).toInt8.toInt32))) (fun I4 => mX10_putBytes_3 k1 n (v2 + (-8)) (upd2 I4 0 1 ((I4 0 1) + 1))))))
def mX10_putBytes (N : Nat) (a2 : Int32) (I : gI) : Option (gI) := Option.bind (mX10_putBytes_3 a2 N 24 I) (fun I6 => some I6)
set_option maxHeartbeats 4000000 in
set_option maxRecDepth 100000 in
theorem wX10_putBytes_3 (d : Nat) (hd : 0 ≤ d) {S : gS} {J : gJ} (hS : Sh S)  (k1 : Int32) {Q : gO → gS → gI → gJ → Prop} :
    ∀ (n : Nat) (v2 : Int32) (I : gI) (res : gI), mX10_putBytes_3 k1 n v2 I = some res → (∀ (O : gI), res = O → Wp RX10 cX10_putBytes 3 none [] hF d 0 0 46 [] [] S O J Q) → Wp RX10 cX10_putBytes 3 none [] hF d 0 0 3 [(0, .ref 0), (1, .int k1), (2, .int v2)] [] S I J Q := by
  intro n
  induction n with
  | zero => intro v2 I res h; exact nso h
  | succ n ih =>
    intro v2 I res h kx
    rw [mX10_putBytes_3] at h
    refine wp_iload_n dX10_putBytes_3 rfl rfl ?_
    refine wp_if_lt (tgt := 46) dX10_putBytes_4 (by decide) (fun hc1 => ?_) (fun hc1 => ?_)
    · have h := ite_t hc1 h
      exact wp_pick (ks := []) rfl (kx _ (sji h).symm)
    · have h := ite_f hc1 h
      refine wp_aload_n dX10_putBytes_7 rfl rfl ?_
      refine wp_getI dX10_putBytes_8 flX10_94 rfl (sk0 hS) (sn0 hS) ?_
      refine wp_sipush (v := 700) dX10_putBytes_11 (by decide) ?_
      refine wp_icmp_ge (tgt := 46) dX10_putBytes_14 (by decide) (fun hc2 => ?_) (fun hc2 => ?_)
      · have h := ite_t hc2 h
        exact wp_pick (ks := []) rfl (kx _ (sji h).symm)
      · have h := ite_f hc2 h
        refine wp_aload_n dX10_putBytes_17 rfl rfl ?_
        refine wp_getR dX10_putBytes_18 flX10_9 rfl (sk0 hS) (sn0 hS) (sr0_0 hS) ?_
        refine wp_aload_n dX10_putBytes_21 rfl rfl ?_
        refine wp_getI dX10_putBytes_22 flX10_94 rfl (sk0 hS) (sn0 hS) ?_
        refine wp_iload_n dX10_putBytes_25 rfl rfl ?_
        refine wp_iload_n dX10_putBytes_26 rfl rfl ?_
        refine wp_iushr dX10_putBytes_27 ?_
        refine wp_i2b dX10_putBytes_28 ?_
        obtain ⟨hb3, h⟩ := ck_inv h
        refine wp_bast dX10_putBytes_29 (sk1 hS) (sn1 hS) hb3 ?_
        obtain ⟨I4, hx5, h⟩ := nm_inv h
        refine wp_nmI hx5 ?_
        refine wp_aload_n dX10_putBytes_30 rfl rfl ?_
        refine wp_dup dX10_putBytes_31 rfl ?_
        refine wp_getI dX10_putBytes_32 flX10_94 rfl (sk0 hS) (sn0 hS) ?_
        refine wp_iconst (v := 1) dX10_putBytes_35 (by decide) ?_
        refine wp_iadd dX10_putBytes_36 ?_
        refine wp_putI dX10_putBytes_37 (Or.inl fpX10_94) rfl ⟨rfl, rfl⟩ (sk0 hS) (sn0 hS) ?_
        refine wp_iinc (v := (-8)) (ls' := [(2, .int (v2 + (-8))), (0, .ref 0), (1, .int k1)]) dX10_putBytes_40 rfl (by decide) (Nat.le_of_ble_eq_true rfl) rfl ?_
        refine wp_goto (tgt := 3) dX10_putBytes_43 (by decide) ?_
        exact wp_pick (ks := [1, 2, 0]) rfl (ih _ _ _ h kx)
set_option maxHeartbeats 4000000 in
set_option maxRecDepth 100000 in
theorem ct_X10_putBytes (N : Nat) (d : Nat) (hd : 0 ≤ d) {S : gS} {J : gJ} (hS : Sh S)  {a2 : Int32} {I : gI} {r : gI} (h : mX10_putBytes N a2 I = some r) : Ct yX10_putBytes (wsY yX10_putBytes cX10_putBytes 3 none) d 0 0 [.ref 0, .int a2] S I J (qE (.inl none) S r J) := by
  refine Ct.of hF (fun _ _ _ _ _ => trivial) (by decide +kernel) (Nat.le_of_ble_eq_true rfl) ⟨Or.inl (sn0 hS), trivial, trivial⟩ ?_
  show Wp RX10 cX10_putBytes 3 none [] hF d 0 0 0 [(0, .ref 0), (1, .int a2)] [] S I J _
  unfold mX10_putBytes at h
  refine wp_bipush (v := 24) dX10_putBytes_0 (by decide) ?_
  refine wp_istore_n (ls' := [(2, .int 24), (0, .ref 0), (1, .int a2)]) dX10_putBytes_2 rfl (Nat.le_of_ble_eq_true rfl) rfl ?_
  obtain ⟨I6, hL97, h⟩ := obi h
  refine wp_pick (ks := [1, 2, 0]) rfl (wX10_putBytes_3 d hd hS  a2 N 24 I _ hL97 (fun _ e8 => ?_))
  cases e8
  exact wp_vret dX10_putBytes_46 rfl (by obtain rfl := sji h; exact ⟨rfl, rfl, rfl, rfl⟩)
def mX10_feed (N : Nat) (a2 : Int32) (a3 : Int32) (a4 : Int32) (a5 : Int32) (a6 : Int32) (I : gI) : Option (Int32 × gI) := if ((I 0 1) + 20) ≤ 700 then (Option.bind (mX10_putBytes N a2 I) (fun I2 => Option.bind (mX10_putBytes N a3 I2) (fun I4 => Option.bind (mX10_putBytes N a4 I4) (fun I6 => Option.bind (mX10_putBytes N a5 I6) (fun I8 => Option.bind (mX10_putBytes N a6 I8) (fun I10 => some (I10 0 1, I10))))))) else (some ((-1), I))
set_option maxHeartbeats 4000000 in
set_option maxRecDepth 100000 in
theorem ct_X10_feed (N : Nat) (d : Nat) (hd : 1 ≤ d) {S : gS} {J : gJ} (hS : Sh S)  {a2 : Int32} {a3 : Int32} {a4 : Int32} {a5 : Int32} {a6 : Int32} {I : gI} {r : Int32 × gI} (h : mX10_feed N a2 a3 a4 a5 a6 I = some r) : Ct yX10_feed (wsY yX10_feed cX10_feed 6 (some .int)) d 0 0 [.ref 0, .int a2, .int a3, .int a4, .int a5, .int a6] S I J (qE (.inl (some (.int r.1))) S r.2 J) := by
  refine Ct.of hF (fun _ _ _ _ _ => trivial) (by decide +kernel) (Nat.le_of_ble_eq_true rfl) ⟨Or.inl (sn0 hS), trivial, trivial, trivial, trivial, trivial, trivial⟩ ?_
  show Wp RX10 cX10_feed 6 (some .int) [] hF d 0 0 0 [(0, .ref 0), (1, .int a2), (2, .int a3), (3, .int a4), (4, .int a5), (5, .int a6)] [] S I J _
  unfold mX10_feed at h
  refine wp_aload_n dX10_feed_0 rfl rfl ?_
  refine wp_getI dX10_feed_1 flX10_94 rfl (sk0 hS) (sn0 hS) ?_
  refine wp_bipush (v := 20) dX10_feed_4 (by decide) ?_
  refine wp_iadd dX10_feed_6 ?_
  refine wp_sipush (v := 700) dX10_feed_7 (by decide) ?_
  refine wp_icmp_le (tgt := 15) dX10_feed_10 (by decide) (fun hc1 => ?_) (fun hc1 => ?_)
  · have h := ite_t hc1 h
    refine wp_aload_n dX10_feed_15 rfl rfl ?_
    refine wp_iload_n dX10_feed_16 rfl rfl ?_
    obtain ⟨I2, hF3, h⟩ := obi h
    refine wp_callVv (ci := 10) (As := [.int a2]) dX10_feed_17 lbX10_putBytes mlX10_97 imX10_putBytes seX10_putBytes vc10 (ct_X10_putBytes N 0 (Nat.le_refl _) hS  hF3) rfl rfl (Nat.le_trans (by decide) hd) (sk0 hS) (sn0 hS) (Nat.le_of_ble_eq_true rfl) (fun _ => ?_)
    refine wp_aload_n dX10_feed_20 rfl rfl ?_
    refine wp_iload_n dX10_feed_21 rfl rfl ?_
    obtain ⟨I4, hF5, h⟩ := obi h
    refine wp_callVv (ci := 10) (As := [.int a3]) dX10_feed_22 lbX10_putBytes mlX10_97 imX10_putBytes seX10_putBytes vc10 (ct_X10_putBytes N 0 (Nat.le_refl _) hS  hF5) rfl rfl (Nat.le_trans (by decide) hd) (sk0 hS) (sn0 hS) (Nat.le_of_ble_eq_true rfl) (fun _ => ?_)
    refine wp_aload_n dX10_feed_25 rfl rfl ?_
    refine wp_iload_n dX10_feed_26 rfl rfl ?_
    obtain ⟨I6, hF7, h⟩ := obi h
    refine wp_callVv (ci := 10) (As := [.int a4]) dX10_feed_27 lbX10_putBytes mlX10_97 imX10_putBytes seX10_putBytes vc10 (ct_X10_putBytes N 0 (Nat.le_refl _) hS  hF7) rfl rfl (Nat.le_trans (by decide) hd) (sk0 hS) (sn0 hS) (Nat.le_of_ble_eq_true rfl) (fun _ => ?_)
    refine wp_aload_n dX10_feed_30 rfl rfl ?_
    refine wp_iload dX10_feed_31 rfl ?_
    obtain ⟨I8, hF9, h⟩ := obi h
    refine wp_callVv (ci := 10) (As := [.int a5]) dX10_feed_33 lbX10_putBytes mlX10_97 imX10_putBytes seX10_putBytes vc10 (ct_X10_putBytes N 0 (Nat.le_refl _) hS  hF9) rfl rfl (Nat.le_trans (by decide) hd) (sk0 hS) (sn0 hS) (Nat.le_of_ble_eq_true rfl) (fun _ => ?_)
    refine wp_aload_n dX10_feed_36 rfl rfl ?_
    refine wp_iload dX10_feed_37 rfl ?_
    obtain ⟨I10, hF11, h⟩ := obi h
    refine wp_callVv (ci := 10) (As := [.int a6]) dX10_feed_39 lbX10_putBytes mlX10_97 imX10_putBytes seX10_putBytes vc10 (ct_X10_putBytes N 0 (Nat.le_refl _) hS  hF11) rfl rfl (Nat.le_trans (by decide) hd) (sk0 hS) (sn0 hS) (Nat.le_of_ble_eq_true rfl) (fun _ => ?_)
    refine wp_aload_n dX10_feed_42 rfl rfl ?_
    refine wp_getI dX10_feed_43 flX10_94 rfl (sk0 hS) (sn0 hS) ?_
    exact wp_iret dX10_feed_46 rfl (by obtain rfl := sji h; exact ⟨rfl, rfl, rfl, rfl⟩)
  · have h := ite_f hc1 h
    refine wp_iconst (v := (-1)) dX10_feed_13 (by decide) ?_
    exact wp_iret dX10_feed_14 rfl (by obtain rfl := sji h; exact ⟨rfl, rfl, rfl, rfl⟩)
def mX10_fault (I : gI) : Option (Int32) := some (I 0 2)
set_option maxHeartbeats 4000000 in
set_option maxRecDepth 100000 in
theorem ct_X10_fault (d : Nat) (hd : 0 ≤ d) {S : gS} {J : gJ} (hS : Sh S)  {I : gI} {r : Int32} (h : mX10_fault I = some r) : Ct yX10_fault (wsY yX10_fault cX10_fault 1 (some .int)) d 0 0 [.ref 0] S I J (qE (.inl (some (.int r))) S I J) := by
  refine Ct.of hF (fun _ _ _ _ _ => trivial) (by decide +kernel) (Nat.le_of_ble_eq_true rfl) ⟨Or.inl (sn0 hS), trivial⟩ ?_
  show Wp RX10 cX10_fault 1 (some .int) [] hF d 0 0 0 [(0, .ref 0)] [] S I J _
  unfold mX10_fault at h
  refine wp_aload_n dX10_fault_0 rfl rfl ?_
  refine wp_getI dX10_fault_1 flX10_13 rfl (sk0 hS) (sn0 hS) ?_
  exact wp_iret dX10_fault_4 rfl (by obtain rfl := sji h; exact ⟨rfl, rfl, rfl, rfl⟩)
def mX10_undo (N : Nat) (I : gI) : Option (Int32 × gI) := if (I 51 2) = 0 then (some ((-1), I)) else (Option.bind (mX0_takeBack N 36 I) (fun I2 => some (I2 51 2, I2)))
set_option maxHeartbeats 4000000 in
set_option maxRecDepth 100000 in
theorem ct_X10_undo (N : Nat) (d : Nat) (hd : 2 ≤ d) {S : gS} {J : gJ} (hS : Sh S)  {I : gI} {r : Int32 × gI} (h : mX10_undo N I = some r) : Ct yX10_undo (wsY yX10_undo cX10_undo 1 (some .int)) d 0 0 [.ref 0] S I J (qE (.inl (some (.int r.1))) S r.2 J) := by
  refine Ct.of hF (fun _ _ _ _ _ => trivial) (by decide +kernel) (Nat.le_of_ble_eq_true rfl) ⟨Or.inl (sn0 hS), trivial⟩ ?_
  show Wp RX10 cX10_undo 1 (some .int) [] hF d 0 0 0 [(0, .ref 0)] [] S I J _
  unfold mX10_undo at h
  refine wp_aload_n dX10_undo_0 rfl rfl ?_
  refine wp_getR dX10_undo_1 flX10_74 rfl (sk0 hS) (sn0 hS) (sr0_14 hS) ?_
  refine wp_getI dX10_undo_4 flX10_167 rfl (sk51 hS) (sn51 hS) ?_
  refine wp_if_ne (tgt := 12) dX10_undo_7 (by decide) (fun hc1 => ?_) (fun hc1 => ?_)
  · have h := ite_f hc1 h
    refine wp_aload_n dX10_undo_12 rfl rfl ?_
    refine wp_getR dX10_undo_13 flX10_74 rfl (sk0 hS) (sn0 hS) (sr0_14 hS) ?_
    refine wp_aload_n dX10_undo_16 rfl rfl ?_
    refine wp_getR dX10_undo_17 flX10_46 rfl (sk0 hS) (sn0 hS) (sr0_10 hS) ?_
    obtain ⟨I2, hF3, h⟩ := obi h
    refine wp_callVNv (ci := 0) (As := [.ref 36]) dX10_undo_20 lbX0_takeBack mnX10_312 imX0_takeBack seX0_takeBack vc0 (ct_X0_takeBack N 1 (Nat.le_refl _) hS (st36 hS) hF3) rfl rfl (Nat.le_trans (by decide) hd) (sk51 hS) (sn51 hS) (Nat.le_of_ble_eq_true rfl) (fun _ => ?_)
    refine wp_aload_n dX10_undo_23 rfl rfl ?_
    refine wp_getR dX10_undo_24 flX10_74 rfl (sk0 hS) (sn0 hS) (sr0_14 hS) ?_
    refine wp_getI dX10_undo_27 flX10_167 rfl (sk51 hS) (sn51 hS) ?_
    exact wp_iret dX10_undo_30 rfl (by obtain rfl := sji h; exact ⟨rfl, rfl, rfl, rfl⟩)
  · have h := ite_t hc1 h
    refine wp_iconst (v := (-1)) dX10_undo_10 (by decide) ?_
    exact wp_iret dX10_undo_11 rfl (by obtain rfl := sji h; exact ⟨rfl, rfl, rfl, rfl⟩)
def mX10_toBreak (N : Nat) (I : gI) : Option (Int32 × gI) := Option.bind (mX3_makePlan N I) (fun I1 => Option.bind (mX3_fewestToBreak N I1) (fun (r3, I4) => some (r3, I4)))
set_option maxHeartbeats 4000000 in
set_option maxRecDepth 100000 in
theorem ct_X10_toBreak (N : Nat) (d : Nat) (hd : 16 ≤ d) {S : gS} {J : gJ} (hS : Sh S)  {I : gI} {r : Int32 × gI} (h : mX10_toBreak N I = some r) : Ct yX10_toBreak (wsY yX10_toBreak cX10_toBreak 1 (some .int)) d 0 0 [.ref 0] S I J (qE (.inl (some (.int r.1))) S r.2 J) := by
  refine Ct.of hF (fun _ _ _ _ _ => trivial) (by decide +kernel) (Nat.le_of_ble_eq_true rfl) ⟨Or.inl (sn0 hS), trivial⟩ ?_
  show Wp RX10 cX10_toBreak 1 (some .int) [] hF d 0 0 0 [(0, .ref 0)] [] S I J _
  unfold mX10_toBreak at h
  refine wp_aload_n dX10_toBreak_0 rfl rfl ?_
  refine wp_getR dX10_toBreak_1 flX10_67 rfl (sk0 hS) (sn0 hS) (sr0_13 hS) ?_
  obtain ⟨I1, hF2, h⟩ := obi h
  refine wp_callVNv (ci := 3) (As := []) dX10_toBreak_4 lbX3_makePlan mnX10_315 imX3_makePlan seX3_makePlan vc3 (ct_X3_makePlan N 4 (Nat.le_refl _) hS  hF2) rfl rfl (Nat.le_trans (by decide) hd) (sk43 hS) (sn43 hS) (Nat.le_of_ble_eq_true rfl) (fun _ => ?_)
  refine wp_aload_n dX10_toBreak_7 rfl rfl ?_
  refine wp_getR dX10_toBreak_8 flX10_67 rfl (sk0 hS) (sn0 hS) (sr0_13 hS) ?_
  obtain ⟨⟨r3, I4⟩, hF5, h⟩ := obi h
  refine wp_callVNi (ci := 3) (As := []) dX10_toBreak_11 lbX3_fewestToBreak mnX10_324 imX3_fewestToBreak seX3_fewestToBreak vc3 (ct_X3_fewestToBreak N 15 (Nat.le_refl _) hS  hF5) rfl rfl (Nat.le_trans (by decide) hd) (sk43 hS) (sn43 hS) (Nat.le_of_ble_eq_true rfl) (fun _ => ?_)
  exact wp_iret dX10_toBreak_14 rfl (by obtain rfl := sji h; exact ⟨rfl, rfl, rfl, rfl⟩)
def mX10_forget (I : gI) : Option (gI) := Option.bind (mX7_clear I) (fun I1 => some I1)
set_option maxHeartbeats 4000000 in
set_option maxRecDepth 100000 in
theorem ct_X10_forget (d : Nat) (hd : 1 ≤ d) {S : gS} {J : gJ} (hS : Sh S)  {I : gI} {r : gI} (h : mX10_forget I = some r) : Ct yX10_forget (wsY yX10_forget cX10_forget 1 none) d 0 0 [.ref 0] S I J (qE (.inl none) S r J) := by
  refine Ct.of hF (fun _ _ _ _ _ => trivial) (by decide +kernel) (Nat.le_of_ble_eq_true rfl) ⟨Or.inl (sn0 hS), trivial⟩ ?_
  show Wp RX10 cX10_forget 1 none [] hF d 0 0 0 [(0, .ref 0)] [] S I J _
  unfold mX10_forget at h
  refine wp_aload_n dX10_forget_0 rfl rfl ?_
  refine wp_getR dX10_forget_1 flX10_81 rfl (sk0 hS) (sn0 hS) (sr0_15 hS) ?_
  obtain ⟨I1, hF2, h⟩ := obi h
  refine wp_callVNv (ci := 7) (As := []) dX10_forget_4 lbX7_clear mnX10_127 imX7_clear seX7_clear vc7 (ct_X7_clear 0 (Nat.le_refl _) hS  hF2) rfl rfl (Nat.le_trans (by decide) hd) (sk173 hS) (sn173 hS) (Nat.le_of_ble_eq_true rfl) (fun _ => ?_)
  exact wp_vret dX10_forget_7 rfl (by obtain rfl := sji h; exact ⟨rfl, rfl, rfl, rfl⟩)
def mX10_image (N : Nat) (I : gI) : Option (gI) := Option.bind (mX8_copyFrom N 179 36 I) (fun I1 => Option.bind (mX0_copyFrom_182_51 N I1) (fun I3 => Option.bind (mX7_copyFrom_304_173 N I3) (fun I5 => some (upd2 I5 0 16 1))))
set_option maxHeartbeats 4000000 in
set_option maxRecDepth 100000 in
theorem ct_X10_image (N : Nat) (d : Nat) (hd : 2 ≤ d) {S : gS} {J : gJ} (hS : Sh S)  {I : gI} {r : gI} (h : mX10_image N I = some r) : Ct yX10_image (wsY yX10_image cX10_image 1 none) d 0 0 [.ref 0] S I J (qE (.inl none) S r J) := by
  refine Ct.of hF (fun _ _ _ _ _ => trivial) (by decide +kernel) (Nat.le_of_ble_eq_true rfl) ⟨Or.inl (sn0 hS), trivial⟩ ?_
  show Wp RX10 cX10_image 1 none [] hF d 0 0 0 [(0, .ref 0)] [] S I J _
  unfold mX10_image at h
  refine wp_aload_n dX10_image_0 rfl rfl ?_
  refine wp_getR dX10_image_1 flX10_85 rfl (sk0 hS) (sn0 hS) (sr0_17 hS) ?_
  refine wp_aload_n dX10_image_4 rfl rfl ?_
  refine wp_getR dX10_image_5 flX10_46 rfl (sk0 hS) (sn0 hS) (sr0_10 hS) ?_
  obtain ⟨I1, hF2, h⟩ := obi h
  refine wp_callVNv (ci := 8) (As := [.ref 36]) dX10_image_8 lbX8_copyFrom mnX10_185 imX8_copyFrom seX8_copyFrom vc8 (ct_X8_copyFrom N 0 (Nat.le_refl _) hS (st179 hS) (st36 hS) hF2) rfl rfl (Nat.le_trans (by decide) hd) (sk179 hS) (sn179 hS) (Nat.le_of_ble_eq_true rfl) (fun _ => ?_)
  refine wp_aload_n dX10_image_11 rfl rfl ?_
  refine wp_getR dX10_image_12 flX10_88 rfl (sk0 hS) (sn0 hS) (sr0_18 hS) ?_
  refine wp_aload_n dX10_image_15 rfl rfl ?_
  refine wp_getR dX10_image_16 flX10_74 rfl (sk0 hS) (sn0 hS) (sr0_14 hS) ?_
  obtain ⟨I3, hF4, h⟩ := obi h
  refine wp_callVNv (ci := 0) (As := [.ref 51]) dX10_image_19 lbX0_copyFrom mnX10_419 imX0_copyFrom seX0_copyFrom vc0 (ct_X0_copyFrom_182_51 N 1 (Nat.le_refl _) hS  hF4) rfl rfl (Nat.le_trans (by decide) hd) (sk182 hS) (sn182 hS) (Nat.le_of_ble_eq_true rfl) (fun _ => ?_)
  refine wp_aload_n dX10_image_22 rfl rfl ?_
  refine wp_getR dX10_image_23 flX10_91 rfl (sk0 hS) (sn0 hS) (sr0_19 hS) ?_
  refine wp_aload_n dX10_image_26 rfl rfl ?_
  refine wp_getR dX10_image_27 flX10_81 rfl (sk0 hS) (sn0 hS) (sr0_15 hS) ?_
  obtain ⟨I5, hF6, h⟩ := obi h
  refine wp_callVNv (ci := 7) (As := [.ref 173]) dX10_image_30 lbX7_copyFrom mnX10_422 imX7_copyFrom seX7_copyFrom vc7 (ct_X7_copyFrom_304_173 N 0 (Nat.le_refl _) hS  hF6) rfl rfl (Nat.le_trans (by decide) hd) (sk304 hS) (sn304 hS) (Nat.le_of_ble_eq_true rfl) (fun _ => ?_)
  refine wp_aload_n dX10_image_33 rfl rfl ?_
  refine wp_iconst (v := 1) dX10_image_34 (by decide) ?_
  refine wp_putI dX10_image_35 (Or.inl fpX10_128) rfl ⟨rfl, rfl⟩ (sk0 hS) (sn0 hS) ?_
  exact wp_vret dX10_image_38 rfl (by obtain rfl := sji h; exact ⟨rfl, rfl, rfl, rfl⟩)
def mX10_restore (N : Nat) (I : gI) : Option (Int32 × gI) := if (I 0 16) = 0 then (some (0, I)) else (Option.bind (mX8_copyFrom N 36 179 I) (fun I2 => Option.bind (mX0_copyFrom_51_182 N I2) (fun I4 => Option.bind (mX7_copyFrom_173_304 N I4) (fun I6 => some (1, I6)))))
set_option maxHeartbeats 4000000 in
set_option maxRecDepth 100000 in
theorem ct_X10_restore (N : Nat) (d : Nat) (hd : 2 ≤ d) {S : gS} {J : gJ} (hS : Sh S)  {I : gI} {r : Int32 × gI} (h : mX10_restore N I = some r) : Ct yX10_restore (wsY yX10_restore cX10_restore 1 (some .boolean)) d 0 0 [.ref 0] S I J (qE (.inl (some (.int r.1))) S r.2 J) := by
  refine Ct.of hF (fun _ _ _ _ _ => trivial) (by decide +kernel) (Nat.le_of_ble_eq_true rfl) ⟨Or.inl (sn0 hS), trivial⟩ ?_
  show Wp RX10 cX10_restore 1 (some .boolean) [] hF d 0 0 0 [(0, .ref 0)] [] S I J _
  unfold mX10_restore at h
  refine wp_aload_n dX10_restore_0 rfl rfl ?_
  refine wp_getI dX10_restore_1 flX10_128 rfl (sk0 hS) (sn0 hS) ?_
  refine wp_if_ne (tgt := 9) dX10_restore_4 (by decide) (fun hc1 => ?_) (fun hc1 => ?_)
  · have h := ite_f hc1 h
    refine wp_aload_n dX10_restore_9 rfl rfl ?_
    refine wp_getR dX10_restore_10 flX10_46 rfl (sk0 hS) (sn0 hS) (sr0_10 hS) ?_
    refine wp_aload_n dX10_restore_13 rfl rfl ?_
    refine wp_getR dX10_restore_14 flX10_85 rfl (sk0 hS) (sn0 hS) (sr0_17 hS) ?_
    obtain ⟨I2, hF3, h⟩ := obi h
    refine wp_callVNv (ci := 8) (As := [.ref 179]) dX10_restore_17 lbX8_copyFrom mnX10_185 imX8_copyFrom seX8_copyFrom vc8 (ct_X8_copyFrom N 0 (Nat.le_refl _) hS (st36 hS) (st179 hS) hF3) rfl rfl (Nat.le_trans (by decide) hd) (sk36 hS) (sn36 hS) (Nat.le_of_ble_eq_true rfl) (fun _ => ?_)
    refine wp_aload_n dX10_restore_20 rfl rfl ?_
    refine wp_getR dX10_restore_21 flX10_74 rfl (sk0 hS) (sn0 hS) (sr0_14 hS) ?_
    refine wp_aload_n dX10_restore_24 rfl rfl ?_
    refine wp_getR dX10_restore_25 flX10_88 rfl (sk0 hS) (sn0 hS) (sr0_18 hS) ?_
    obtain ⟨I4, hF5, h⟩ := obi h
    refine wp_callVNv (ci := 0) (As := [.ref 182]) dX10_restore_28 lbX0_copyFrom mnX10_419 imX0_copyFrom seX0_copyFrom vc0 (ct_X0_copyFrom_51_182 N 1 (Nat.le_refl _) hS  hF5) rfl rfl (Nat.le_trans (by decide) hd) (sk51 hS) (sn51 hS) (Nat.le_of_ble_eq_true rfl) (fun _ => ?_)
    refine wp_aload_n dX10_restore_31 rfl rfl ?_
    refine wp_getR dX10_restore_32 flX10_81 rfl (sk0 hS) (sn0 hS) (sr0_15 hS) ?_
    refine wp_aload_n dX10_restore_35 rfl rfl ?_
    refine wp_getR dX10_restore_36 flX10_91 rfl (sk0 hS) (sn0 hS) (sr0_19 hS) ?_
    obtain ⟨I6, hF7, h⟩ := obi h
    refine wp_callVNv (ci := 7) (As := [.ref 304]) dX10_restore_39 lbX7_copyFrom mnX10_422 imX7_copyFrom seX7_copyFrom vc7 (ct_X7_copyFrom_173_304 N 0 (Nat.le_refl _) hS  hF7) rfl rfl (Nat.le_trans (by decide) hd) (sk173 hS) (sn173 hS) (Nat.le_of_ble_eq_true rfl) (fun _ => ?_)
    refine wp_iconst (v := 1) dX10_restore_42 (by decide) ?_
    exact wp_zret dX10_restore_43 rfl (by decide) (by obtain rfl := sji h; exact ⟨rfl, rfl, rfl, rfl⟩)
  · have h := ite_t hc1 h
    refine wp_iconst (v := 0) dX10_restore_7 (by decide) ?_
    exact wp_zret dX10_restore_8 rfl (by decide) (by obtain rfl := sji h; exact ⟨rfl, rfl, rfl, rfl⟩)
def mX10_power_4 (k0 : Int32) (k1 : Int32) (I : gI) : Nat → Int32 → Int32 → Option (Int32)
  | 0, _, _ => none
  | n + 1, v2, v3 => if k1 ≤ v3 then (some v2) else (mX10_power_4 k0 k1 I n (v2 * k0) (v3 + 1))
def mX10_power (N : Nat) (a1 : Int32) (a2 : Int32) (I : gI) : Option (Int32) := Option.bind (mX10_power_4 a1 a2 I N 1 0) (fun y2 => some y2)
set_option maxHeartbeats 4000000 in
set_option maxRecDepth 100000 in
theorem wX10_power_4 (d : Nat) (hd : 0 ≤ d) {S : gS} {J : gJ} (hS : Sh S)  (k0 : Int32) (k1 : Int32) (I : gI) {Q : gO → gS → gI → gJ → Prop} :
    ∀ (n : Nat) (v2 : Int32) (v3 : Int32) (res : Int32), mX10_power_4 k0 k1 I n v2 v3 = some res → (∀ (o2 : Int32), res = o2 → Wp RX10 cX10_power 4 (some .int) [] hF d 0 0 19 [(2, .int o2)] [] S I J Q) → Wp RX10 cX10_power 4 (some .int) [] hF d 0 0 4 [(0, .int k0), (1, .int k1), (2, .int v2), (3, .int v3)] [] S I J Q := by
  intro n
  induction n with
  | zero => intro v2 v3 res h; exact nso h
  | succ n ih =>
    intro v2 v3 res h kx
    rw [mX10_power_4] at h
    refine wp_iload_n dX10_power_4 rfl rfl ?_
    refine wp_iload_n dX10_power_5 rfl rfl ?_
    refine wp_icmp_ge (tgt := 19) dX10_power_6 (by decide) (fun hc1 => ?_) (fun hc1 => ?_)
    · have h := ite_t hc1 h
      exact wp_pick (ks := [2]) rfl (kx _ (sji h).symm)
    · have h := ite_f hc1 h
      refine wp_iload_n dX10_power_9 rfl rfl ?_
      refine wp_iload_n dX10_power_10 rfl rfl ?_
      refine wp_imul dX10_power_11 ?_
      refine wp_istore_n (ls' := [(2, .int (v2 * k0)), (0, .int k0), (1, .int k1), (3, .int v3)]) dX10_power_12 rfl (Nat.le_of_ble_eq_true rfl) rfl ?_
      refine wp_iinc (v := 1) (ls' := [(3, .int (v3 + 1)), (2, .int (v2 * k0)), (0, .int k0), (1, .int k1)]) dX10_power_13 rfl (by decide) (Nat.le_of_ble_eq_true rfl) rfl ?_
      refine wp_goto (tgt := 4) dX10_power_16 (by decide) ?_
      exact wp_pick (ks := [2, 3, 1, 0]) rfl (ih _ _ _ h kx)
set_option maxHeartbeats 4000000 in
set_option maxRecDepth 100000 in
theorem ct_X10_power (N : Nat) (d : Nat) (hd : 0 ≤ d) {S : gS} {J : gJ} (hS : Sh S)  {a1 : Int32} {a2 : Int32} {I : gI} {r : Int32} (h : mX10_power N a1 a2 I = some r) : Ct yX10_power (wsY yX10_power cX10_power 4 (some .int)) d 0 0 [.int a1, .int a2] S I J (qE (.inl (some (.int r))) S I J) := by
  refine Ct.of hF (fun _ _ _ _ _ => trivial) (by decide +kernel) (Nat.le_of_ble_eq_true rfl) ⟨trivial, trivial, trivial⟩ ?_
  show Wp RX10 cX10_power 4 (some .int) [] hF d 0 0 0 [(0, .int a1), (1, .int a2)] [] S I J _
  unfold mX10_power at h
  refine wp_iconst (v := 1) dX10_power_0 (by decide) ?_
  refine wp_istore_n (ls' := [(2, .int 1), (0, .int a1), (1, .int a2)]) dX10_power_1 rfl (Nat.le_of_ble_eq_true rfl) rfl ?_
  refine wp_iconst (v := 0) dX10_power_2 (by decide) ?_
  refine wp_istore_n (ls' := [(3, .int 0), (2, .int 1), (0, .int a1), (1, .int a2)]) dX10_power_3 rfl (Nat.le_of_ble_eq_true rfl) rfl ?_
  obtain ⟨y2, hL93, h⟩ := obi h
  refine wp_pick (ks := [2, 3, 1, 0]) rfl (wX10_power_4 d hd hS  a1 a2 I N 1 0 _ hL93 (fun _ e4 => ?_))
  cases e4
  refine wp_iload_n dX10_power_19 rfl rfl ?_
  exact wp_iret dX10_power_20 rfl (by obtain rfl := sji h; exact ⟨rfl, rfl, rfl, rfl⟩)
def mX10_isAmount (a1 : Int32) (I : gI) : Option (Int32) := if a1 < 1 then (some 0) else (if 99 < a1 then (some 0) else (some 1))
set_option maxHeartbeats 4000000 in
set_option maxRecDepth 100000 in
theorem ct_X10_isAmount (d : Nat) (hd : 0 ≤ d) {S : gS} {J : gJ} (hS : Sh S)  {a1 : Int32} {I : gI} {r : Int32} (h : mX10_isAmount a1 I = some r) : Ct yX10_isAmount (wsY yX10_isAmount cX10_isAmount 1 (some .boolean)) d 0 0 [.int a1] S I J (qE (.inl (some (.int r))) S I J) := by
  refine Ct.of hF (fun _ _ _ _ _ => trivial) (by decide +kernel) (Nat.le_of_ble_eq_true rfl) ⟨trivial, trivial⟩ ?_
  show Wp RX10 cX10_isAmount 1 (some .boolean) [] hF d 0 0 0 [(0, .int a1)] [] S I J _
  unfold mX10_isAmount at h
  refine wp_iload_n dX10_isAmount_0 rfl rfl ?_
  refine wp_iconst (v := 1) dX10_isAmount_1 (by decide) ?_
  refine wp_icmp_lt (tgt := 15) dX10_isAmount_2 (by decide) (fun hc1 => ?_) (fun hc1 => ?_)
  · have h := ite_t hc1 h
    refine wp_iconst (v := 0) dX10_isAmount_15 (by decide) ?_
    exact wp_zret dX10_isAmount_16 rfl (by decide) (by obtain rfl := sji h; exact ⟨rfl, rfl, rfl, rfl⟩)
  · have h := ite_f hc1 h
    refine wp_iload_n dX10_isAmount_5 rfl rfl ?_
    refine wp_bipush (v := 99) dX10_isAmount_6 (by decide) ?_
    refine wp_icmp_gt (tgt := 15) dX10_isAmount_8 (by decide) (fun hc2 => ?_) (fun hc2 => ?_)
    · have h := ite_t hc2 h
      refine wp_iconst (v := 0) dX10_isAmount_15 (by decide) ?_
      exact wp_zret dX10_isAmount_16 rfl (by decide) (by obtain rfl := sji h; exact ⟨rfl, rfl, rfl, rfl⟩)
    · have h := ite_f hc2 h
      refine wp_iconst (v := 1) dX10_isAmount_11 (by decide) ?_
      refine wp_goto (tgt := 16) dX10_isAmount_12 (by decide) ?_
      exact wp_zret dX10_isAmount_16 rfl (by decide) (by obtain rfl := sji h; exact ⟨rfl, rfl, rfl, rfl⟩)
def mX10_isPriority (a1 : Int32) (I : gI) : Option (Int32) := if a1 < 0 then (some 0) else (if 7 < a1 then (some 0) else (some 1))
set_option maxHeartbeats 4000000 in
set_option maxRecDepth 100000 in
theorem ct_X10_isPriority (d : Nat) (hd : 0 ≤ d) {S : gS} {J : gJ} (hS : Sh S)  {a1 : Int32} {I : gI} {r : Int32} (h : mX10_isPriority a1 I = some r) : Ct yX10_isPriority (wsY yX10_isPriority cX10_isPriority 1 (some .boolean)) d 0 0 [.int a1] S I J (qE (.inl (some (.int r))) S I J) := by
  refine Ct.of hF (fun _ _ _ _ _ => trivial) (by decide +kernel) (Nat.le_of_ble_eq_true rfl) ⟨trivial, trivial⟩ ?_
  show Wp RX10 cX10_isPriority 1 (some .boolean) [] hF d 0 0 0 [(0, .int a1)] [] S I J _
  unfold mX10_isPriority at h
  refine wp_iload_n dX10_isPriority_0 rfl rfl ?_
  refine wp_if_lt (tgt := 14) dX10_isPriority_1 (by decide) (fun hc1 => ?_) (fun hc1 => ?_)
  · have h := ite_t hc1 h
    refine wp_iconst (v := 0) dX10_isPriority_14 (by decide) ?_
    exact wp_zret dX10_isPriority_15 rfl (by decide) (by obtain rfl := sji h; exact ⟨rfl, rfl, rfl, rfl⟩)
  · have h := ite_f hc1 h
    refine wp_iload_n dX10_isPriority_4 rfl rfl ?_
    refine wp_bipush (v := 7) dX10_isPriority_5 (by decide) ?_
    refine wp_icmp_gt (tgt := 14) dX10_isPriority_7 (by decide) (fun hc2 => ?_) (fun hc2 => ?_)
    · have h := ite_t hc2 h
      refine wp_iconst (v := 0) dX10_isPriority_14 (by decide) ?_
      exact wp_zret dX10_isPriority_15 rfl (by decide) (by obtain rfl := sji h; exact ⟨rfl, rfl, rfl, rfl⟩)
    · have h := ite_f hc2 h
      refine wp_iconst (v := 1) dX10_isPriority_10 (by decide) ?_
      refine wp_goto (tgt := 15) dX10_isPriority_11 (by decide) ?_
      exact wp_zret dX10_isPriority_15 rfl (by decide) (by obtain rfl := sji h; exact ⟨rfl, rfl, rfl, rfl⟩)
def mX10_refuseAct (I : gI) : Option (Int32 × gI) := some ((-1), upd2 I 0 4 ((I 0 4) + 1))
set_option maxHeartbeats 4000000 in
set_option maxRecDepth 100000 in
theorem ct_X10_refuseAct (d : Nat) (hd : 0 ≤ d) {S : gS} {J : gJ} (hS : Sh S)  {I : gI} {r : Int32 × gI} (h : mX10_refuseAct I = some r) : Ct yX10_refuseAct (wsY yX10_refuseAct cX10_refuseAct 1 (some .int)) d 0 0 [.ref 0] S I J (qE (.inl (some (.int r.1))) S r.2 J) := by
  refine Ct.of hF (fun _ _ _ _ _ => trivial) (by decide +kernel) (Nat.le_of_ble_eq_true rfl) ⟨Or.inl (sn0 hS), trivial⟩ ?_
  show Wp RX10 cX10_refuseAct 1 (some .int) [] hF d 0 0 0 [(0, .ref 0)] [] S I J _
  unfold mX10_refuseAct at h
  refine wp_aload_n dX10_refuseAct_0 rfl rfl ?_
  refine wp_dup dX10_refuseAct_1 rfl ?_
  refine wp_getI dX10_refuseAct_2 flX10_171 rfl (sk0 hS) (sn0 hS) ?_
  refine wp_iconst (v := 1) dX10_refuseAct_5 (by decide) ?_
  refine wp_iadd dX10_refuseAct_6 ?_
  refine wp_putI dX10_refuseAct_7 (Or.inl fpX10_171) rfl ⟨rfl, rfl⟩ (sk0 hS) (sn0 hS) ?_
  refine wp_iconst (v := (-1)) dX10_refuseAct_10 (by decide) ?_
  exact wp_iret dX10_refuseAct_11 rfl (by obtain rfl := sji h; exact ⟨rfl, rfl, rfl, rfl⟩)
def mX10_lostBy (N : Nat) (a2 : Int32) (I : gI) : Option (Int32 × gI) := if a2 = (-1) then (some (0, I)) else (Option.bind (mX2_tunnelsOn N 36 a2 I) (fun r2 => if r2 = 0 then (some (0, I)) else (Option.bind (mX2_standing N 36 I) (fun r5 => Option.bind (mX8_copyFrom N 39 36 I) (fun I7 => Option.bind (mX2_breakLink N 36 a2 I7) (fun (r9, I10) => Option.bind (mX2_settle N 36 r9 I10) (fun (r12, I13) => Option.bind (mX2_standing N 36 I13) (fun r15 => Option.bind (mJ6_bitCount_0f7a4 (r5 &&& (r15 ^^^ (-1))) I13) (fun r17 => Option.bind (mX8_copyFrom N 36 39 I13) (fun I19 => some (r17, I19)))))))))))
set_option maxHeartbeats 4000000 in
set_option maxRecDepth 100000 in
theorem ct_X10_lostBy (N : Nat) (d : Nat) (hd : 5 ≤ d) {S : gS} {J : gJ} (hS : Sh S)  {a2 : Int32} {I : gI} {r : Int32 × gI} (h : mX10_lostBy N a2 I = some r) : Ct yX10_lostBy (wsY yX10_lostBy cX10_lostBy 4 (some .int)) d 0 0 [.ref 0, .int a2] S I J (qE (.inl (some (.int r.1))) S r.2 J) := by
  refine Ct.of hF (fun _ _ _ _ _ => trivial) (by decide +kernel) (Nat.le_of_ble_eq_true rfl) ⟨Or.inl (sn0 hS), trivial, trivial⟩ ?_
  show Wp RX10 cX10_lostBy 4 (some .int) [] hF d 0 0 0 [(0, .ref 0), (1, .int a2)] [] S I J _
  unfold mX10_lostBy at h
  refine wp_iload_n dX10_lostBy_0 rfl rfl ?_
  refine wp_iconst (v := (-1)) dX10_lostBy_1 (by decide) ?_
  refine wp_icmp_eq (tgt := 16) dX10_lostBy_2 (by decide) (fun hc1 => ?_) (fun hc1 => ?_)
  · have h := ite_t hc1 h
    refine wp_iconst (v := 0) dX10_lostBy_16 (by decide) ?_
    exact wp_iret dX10_lostBy_17 rfl (by obtain rfl := sji h; exact ⟨rfl, rfl, rfl, rfl⟩)
  · have h := ite_f hc1 h
    refine wp_aload_n dX10_lostBy_5 rfl rfl ?_
    refine wp_getR dX10_lostBy_6 flX10_58 rfl (sk0 hS) (sn0 hS) (sr0_12 hS) ?_
    refine wp_iload_n dX10_lostBy_9 rfl rfl ?_
    obtain ⟨r2, hF3, h⟩ := obi h
    refine wp_callVNi (ci := 2) (As := [.int a2]) dX10_lostBy_10 lbX2_tunnelsOn mnX10_182 imX2_tunnelsOn seX2_tunnelsOn vc2 (ct_X2_tunnelsOn N 0 (Nat.le_refl _) hS (le42 hS) hF3) rfl rfl (Nat.le_trans (by decide) hd) (sk42 hS) (sn42 hS) (Nat.le_of_ble_eq_true rfl) (fun _ => ?_)
    refine wp_if_ne (tgt := 18) dX10_lostBy_13 (by decide) (fun hc4 => ?_) (fun hc4 => ?_)
    · have h := ite_f hc4 h
      refine wp_aload_n dX10_lostBy_18 rfl rfl ?_
      refine wp_getR dX10_lostBy_19 flX10_58 rfl (sk0 hS) (sn0 hS) (sr0_12 hS) ?_
      obtain ⟨r5, hF6, h⟩ := obi h
      refine wp_callVNi (ci := 2) (As := []) dX10_lostBy_22 lbX2_standing mnX10_141 imX2_standing seX2_standing vc2 (ct_X2_standing N 0 (Nat.le_refl _) hS (le42 hS) hF6) rfl rfl (Nat.le_trans (by decide) hd) (sk42 hS) (sn42 hS) (Nat.le_of_ble_eq_true rfl) (fun _ => ?_)
      refine wp_istore_n (ls' := [(2, .int r5), (0, .ref 0), (1, .int a2)]) dX10_lostBy_25 rfl (Nat.le_of_ble_eq_true rfl) rfl ?_
      refine wp_aload_n dX10_lostBy_26 rfl rfl ?_
      refine wp_getR dX10_lostBy_27 flX10_50 rfl (sk0 hS) (sn0 hS) (sr0_11 hS) ?_
      refine wp_aload_n dX10_lostBy_30 rfl rfl ?_
      refine wp_getR dX10_lostBy_31 flX10_46 rfl (sk0 hS) (sn0 hS) (sr0_10 hS) ?_
      obtain ⟨I7, hF8, h⟩ := obi h
      refine wp_callVNv (ci := 8) (As := [.ref 36]) dX10_lostBy_34 lbX8_copyFrom mnX10_185 imX8_copyFrom seX8_copyFrom vc8 (ct_X8_copyFrom N 0 (Nat.le_refl _) hS (st39 hS) (st36 hS) hF8) rfl rfl (Nat.le_trans (by decide) hd) (sk39 hS) (sn39 hS) (Nat.le_of_ble_eq_true rfl) (fun _ => ?_)
      refine wp_aload_n dX10_lostBy_37 rfl rfl ?_
      refine wp_getR dX10_lostBy_38 flX10_58 rfl (sk0 hS) (sn0 hS) (sr0_12 hS) ?_
      refine wp_aload_n dX10_lostBy_41 rfl rfl ?_
      refine wp_getR dX10_lostBy_42 flX10_58 rfl (sk0 hS) (sn0 hS) (sr0_12 hS) ?_
      refine wp_iload_n dX10_lostBy_45 rfl rfl ?_
      obtain ⟨⟨r9, I10⟩, hF11, h⟩ := obi h
      refine wp_callVNi (ci := 2) (As := [.int a2]) dX10_lostBy_46 lbX2_breakLink mnX10_188 imX2_breakLink seX2_breakLink vc2 (ct_X2_breakLink N 1 (Nat.le_refl _) hS (le42 hS) hF11) rfl rfl (Nat.le_trans (by decide) hd) (sk42 hS) (sn42 hS) (Nat.le_of_ble_eq_true rfl) (fun _ => ?_)
      obtain ⟨⟨r12, I13⟩, hF14, h⟩ := obi h
      refine wp_callVNi (ci := 2) (As := [.int r9]) dX10_lostBy_49 lbX2_settle mnX10_191 imX2_settle seX2_settle vc2 (ct_X2_settle N 4 (Nat.le_refl _) hS (le42 hS) hF14) rfl rfl (Nat.le_trans (by decide) hd) (sk42 hS) (sn42 hS) (Nat.le_of_ble_eq_true rfl) (fun _ => ?_)
      refine wp_pop dX10_lostBy_52 rfl ?_
      refine wp_iload_n dX10_lostBy_53 rfl rfl ?_
      refine wp_aload_n dX10_lostBy_54 rfl rfl ?_
      refine wp_getR dX10_lostBy_55 flX10_58 rfl (sk0 hS) (sn0 hS) (sr0_12 hS) ?_
      obtain ⟨r15, hF16, h⟩ := obi h
      refine wp_callVNi (ci := 2) (As := []) dX10_lostBy_58 lbX2_standing mnX10_141 imX2_standing seX2_standing vc2 (ct_X2_standing N 0 (Nat.le_refl _) hS (le42 hS) hF16) rfl rfl (Nat.le_trans (by decide) hd) (sk42 hS) (sn42 hS) (Nat.le_of_ble_eq_true rfl) (fun _ => ?_)
      refine wp_iconst (v := (-1)) dX10_lostBy_61 (by decide) ?_
      refine wp_ixor dX10_lostBy_62 ?_
      refine wp_iand dX10_lostBy_63 ?_
      obtain ⟨r17, hF18, h⟩ := obi h
      refine wp_callSi (As := [.int (r5 &&& (r15 ^^^ (-1)))]) dX10_lostBy_64 lbJ6_bitCount_0f7a4 mlX10_194 smJ6_bitCount_0f7a4 (ct_J6_bitCount_0f7a4 0 (Nat.le_refl _) hS  hF18) rfl rfl (Nat.le_trans (by decide) hd) (Nat.le_of_ble_eq_true rfl) (fun _ => ?_)
      refine wp_istore_n (ls' := [(3, .int r17), (2, .int r5), (0, .ref 0), (1, .int a2)]) dX10_lostBy_67 rfl (Nat.le_of_ble_eq_true rfl) rfl ?_
      refine wp_aload_n dX10_lostBy_68 rfl rfl ?_
      refine wp_getR dX10_lostBy_69 flX10_46 rfl (sk0 hS) (sn0 hS) (sr0_10 hS) ?_
      refine wp_aload_n dX10_lostBy_72 rfl rfl ?_
      refine wp_getR dX10_lostBy_73 flX10_50 rfl (sk0 hS) (sn0 hS) (sr0_11 hS) ?_
      obtain ⟨I19, hF20, h⟩ := obi h
      refine wp_callVNv (ci := 8) (As := [.ref 39]) dX10_lostBy_76 lbX8_copyFrom mnX10_185 imX8_copyFrom seX8_copyFrom vc8 (ct_X8_copyFrom N 0 (Nat.le_refl _) hS (st36 hS) (st39 hS) hF20) rfl rfl (Nat.le_trans (by decide) hd) (sk36 hS) (sn36 hS) (Nat.le_of_ble_eq_true rfl) (fun _ => ?_)
      refine wp_iload_n dX10_lostBy_79 rfl rfl ?_
      exact wp_iret dX10_lostBy_80 rfl (by obtain rfl := sji h; exact ⟨rfl, rfl, rfl, rfl⟩)
    · have h := ite_t hc4 h
      refine wp_iconst (v := 0) dX10_lostBy_16 (by decide) ?_
      exact wp_iret dX10_lostBy_17 rfl (by obtain rfl := sji h; exact ⟨rfl, rfl, rfl, rfl⟩)
def mX10_worstLink_6 (N : Nat) : Nat → Int32 → Int32 → Int32 → gI → Option (Int32 × gI)
  | 0, _, _, _, _ => none
  | n + 1, v1, v2, v3, I => if (I 2 1) ≤ v3 then (some (v1, I)) else (Option.bind (mX10_lostBy N v3 I) (fun (r2, I3) => if r2 ≤ v2 then (mX10_worstLink_6 N n v1 v2 (v3 + 1) I3) else (mX10_worstLink_6 N n v3 r2 (v3 + 1) I3)))
def mX10_worstLink (N : Nat) (I : gI) : Option (Int32 × gI) := Option.bind (mX10_worstLink_6 N N (-1) 0 0 I) (fun (y6, I7) => some (y6, I7))
set_option maxHeartbeats 4000000 in
set_option maxRecDepth 100000 in
theorem wX10_worstLink_6 (N : Nat) (d : Nat) (hd : 6 ≤ d) {S : gS} {J : gJ} (hS : Sh S)  {Q : gO → gS → gI → gJ → Prop} :
    ∀ (n : Nat) (v1 : Int32) (v2 : Int32) (v3 : Int32) (I : gI) (res : Int32 × gI), mX10_worstLink_6 N n v1 v2 v3 I = some res → (∀ (o1 : Int32) (O : gI), res = (o1, O) → Wp RX10 cX10_worstLink 5 (some .int) [] hF d 0 0 41 [(1, .int o1)] [] S O J Q) → Wp RX10 cX10_worstLink 5 (some .int) [] hF d 0 0 6 [(0, .ref 0), (1, .int v1), (2, .int v2), (3, .int v3)] [] S I J Q := by
  intro n
  induction n with
  | zero => intro v1 v2 v3 I res h; exact nso h
  | succ n ih =>
    intro v1 v2 v3 I res h kx
    rw [mX10_worstLink_6] at h
    refine wp_iload_n dX10_worstLink_6 rfl rfl ?_
    refine wp_aload_n dX10_worstLink_7 rfl rfl ?_
    refine wp_getR dX10_worstLink_8 flX10_20 rfl (sk0 hS) (sn0 hS) (sr0_6 hS) ?_
    refine wp_getI dX10_worstLink_11 flX10_135 rfl (sk2 hS) (sn2 hS) ?_
    refine wp_icmp_ge (tgt := 41) dX10_worstLink_14 (by decide) (fun hc1 => ?_) (fun hc1 => ?_)
    · have h := ite_t hc1 h
      exact wp_pick (ks := [1]) rfl (kx _ _ (sji h).symm)
    · have h := ite_f hc1 h
      refine wp_aload_n dX10_worstLink_17 rfl rfl ?_
      refine wp_iload_n dX10_worstLink_18 rfl rfl ?_
      obtain ⟨⟨r2, I3⟩, hF4, h⟩ := obi h
      refine wp_callVi (ci := 10) (As := [.int v3]) dX10_worstLink_19 lbX10_lostBy mlX10_164 imX10_lostBy seX10_lostBy vc10 (ct_X10_lostBy N 5 (Nat.le_refl _) hS  hF4) rfl rfl (Nat.le_trans (by decide) hd) (sk0 hS) (sn0 hS) (Nat.le_of_ble_eq_true rfl) (fun _ => ?_)
      refine wp_istore (ls' := [(4, .int r2), (0, .ref 0), (1, .int v1), (2, .int v2), (3, .int v3)]) dX10_worstLink_22 (Nat.le_of_ble_eq_true rfl) rfl ?_
      refine wp_iload dX10_worstLink_24 rfl ?_
      refine wp_iload_n dX10_worstLink_26 rfl rfl ?_
      refine wp_icmp_le (tgt := 35) dX10_worstLink_27 (by decide) (fun hc5 => ?_) (fun hc5 => ?_)
      · have h := ite_t hc5 h
        refine wp_iinc (v := 1) (ls' := [(3, .int (v3 + 1)), (4, .int r2), (0, .ref 0), (1, .int v1), (2, .int v2)]) dX10_worstLink_35 rfl (by decide) (Nat.le_of_ble_eq_true rfl) rfl ?_
        refine wp_goto (tgt := 6) dX10_worstLink_38 (by decide) ?_
        exact wp_pick (ks := [2, 3, 4, 0]) rfl (ih _ _ _ _ _ h kx)
      · have h := ite_f hc5 h
        refine wp_iload dX10_worstLink_30 rfl ?_
        refine wp_istore_n (ls' := [(2, .int r2), (4, .int r2), (0, .ref 0), (1, .int v1), (3, .int v3)]) dX10_worstLink_32 rfl (Nat.le_of_ble_eq_true rfl) rfl ?_
        refine wp_iload_n dX10_worstLink_33 rfl rfl ?_
        refine wp_istore_n (ls' := [(1, .int v3), (2, .int r2), (4, .int r2), (0, .ref 0), (3, .int v3)]) dX10_worstLink_34 rfl (Nat.le_of_ble_eq_true rfl) rfl ?_
        refine wp_iinc (v := 1) (ls' := [(3, .int (v3 + 1)), (1, .int v3), (2, .int r2), (4, .int r2), (0, .ref 0)]) dX10_worstLink_35 rfl (by decide) (Nat.le_of_ble_eq_true rfl) rfl ?_
        refine wp_goto (tgt := 6) dX10_worstLink_38 (by decide) ?_
        exact wp_pick (ks := [4, 1, 2, 0]) rfl (ih _ _ _ _ _ h kx)
set_option maxHeartbeats 4000000 in
set_option maxRecDepth 100000 in
theorem ct_X10_worstLink (N : Nat) (d : Nat) (hd : 6 ≤ d) {S : gS} {J : gJ} (hS : Sh S)  {I : gI} {r : Int32 × gI} (h : mX10_worstLink N I = some r) : Ct yX10_worstLink (wsY yX10_worstLink cX10_worstLink 5 (some .int)) d 0 0 [.ref 0] S I J (qE (.inl (some (.int r.1))) S r.2 J) := by
  refine Ct.of hF (fun _ _ _ _ _ => trivial) (by decide +kernel) (Nat.le_of_ble_eq_true rfl) ⟨Or.inl (sn0 hS), trivial⟩ ?_
  show Wp RX10 cX10_worstLink 5 (some .int) [] hF d 0 0 0 [(0, .ref 0)] [] S I J _
  unfold mX10_worstLink at h
  refine wp_iconst (v := (-1)) dX10_worstLink_0 (by decide) ?_
  refine wp_istore_n (ls' := [(1, .int (-1)), (0, .ref 0)]) dX10_worstLink_1 rfl (Nat.le_of_ble_eq_true rfl) rfl ?_
  refine wp_iconst (v := 0) dX10_worstLink_2 (by decide) ?_
  refine wp_istore_n (ls' := [(2, .int 0), (1, .int (-1)), (0, .ref 0)]) dX10_worstLink_3 rfl (Nat.le_of_ble_eq_true rfl) rfl ?_
  refine wp_iconst (v := 0) dX10_worstLink_4 (by decide) ?_
  refine wp_istore_n (ls' := [(3, .int 0), (2, .int 0), (1, .int (-1)), (0, .ref 0)]) dX10_worstLink_5 rfl (Nat.le_of_ble_eq_true rfl) rfl ?_
  obtain ⟨⟨y6, I7⟩, hL98, h⟩ := obi h
  refine wp_pick (ks := [3, 2, 1, 0]) rfl (wX10_worstLink_6 N d hd hS   N (-1) 0 0 I _ hL98 (fun _ _ e9 => ?_))
  cases e9
  refine wp_iload_n dX10_worstLink_41 rfl rfl ?_
  exact wp_iret dX10_worstLink_42 rfl (by obtain rfl := sji h; exact ⟨rfl, rfl, rfl, rfl⟩)
def mX10_otherCapacities_73 (k1 : Int32) (k3 : Int32) (k5 : Int32) (I : gI) : Nat → Int32 → Int32 → Option ((Int32) ⊕ (Int32 × gI))
  | 0, _, _ => none
  | n + 1, v2, v6 => if k5 < v6 then (some (.inl v2)) else (ck k3 16 (if v6 = (I 6 k3.toNatClampNeg) then (mX10_otherCapacities_73 k1 k3 k5 I n v2 (v6 + 1)) else (if k1 = 0 then (mX10_otherCapacities_73 k1 k3 k5 I n (v2 + 1) (v6 + 1)) else (some (.inr ((100 * k3) + v6, I))))))
def mX10_otherCapacities_4 (N : Nat) (k1 : Int32) : Nat → Int32 → Int32 → gI → Option ((Int32 × gI) ⊕ (Int32 × gI))
  | 0, _, _, _ => none
  | n + 1, v2, v3, I => if (I 2 1) ≤ v3 then (some (.inl (v2, I))) else (Option.bind (mX7_bound N 36 v3 I) (fun I2 => Option.bind (mX2_taken N 36 v3 I2) (fun r4 => nm (if (I2 173 6) < (if 1 < r4 then r4 else 1) then (if 1 < r4 then r4 else 1) else (I2 173 6)) (fun x6 => lbind (mX10_otherCapacities_73 k1 v3 (if 20 < (I2 173 7) then 20 else (I2 173 7)) I2 N v2 x6) (fun y12 => mX10_otherCapacities_4 N k1 n y12 (v3 + 1) I2) (fun (r15, I16) => some (.inr (r15, I16)))))))
def mX10_otherCapacities (N : Nat) (a2 : Int32) (I : gI) : Option (Int32 × gI) := lbind (mX10_otherCapacities_4 N a2 N 0 0 I) (fun (y17, I18) => if a2 = 0 then (some (y17, I18)) else (some ((-1), I18))) (fun (r22, I23) => some (r22, I23))
set_option maxHeartbeats 4000000 in
set_option maxRecDepth 100000 in
theorem wX10_otherCapacities_73 (d : Nat) (hd : 3 ≤ d) {S : gS} {J : gJ} (hS : Sh S)  (k1 : Int32) (k3 : Int32) (k5 : Int32) (I : gI) {Q : gO → gS → gI → gJ → Prop} :
    ∀ (n : Nat) (v2 : Int32) (v6 : Int32) (res : (Int32) ⊕ (Int32 × gI)), mX10_otherCapacities_73 k1 k3 k5 I n v2 v6 = some res → (∀ (o2 : Int32), res = Sum.inl o2 → Wp RX10 cX10_otherCapacities 7 (some .int) [] hF d 0 0 115 [(0, .ref 0), (1, .int k1), (2, .int o2), (3, .int k3)] [] S I J Q) → (∀ (r : Int32) (O : gI), res = Sum.inr (r, O) → Q (.inl (some (.int r))) S O J) → Wp RX10 cX10_otherCapacities 7 (some .int) [] hF d 0 0 73 [(0, .ref 0), (1, .int k1), (2, .int v2), (3, .int k3), (5, .int k5), (6, .int v6)] [] S I J Q := by
  intro n
  induction n with
  | zero => intro v2 v6 res h; exact nso h
  | succ n ih =>
    intro v2 v6 res h kx kr
    rw [mX10_otherCapacities_73] at h
    refine wp_iload dX10_otherCapacities_73 rfl ?_
    refine wp_iload dX10_otherCapacities_75 rfl ?_
    refine wp_icmp_gt (tgt := 115) dX10_otherCapacities_77 (by decide) (fun hc8 => ?_) (fun hc8 => ?_)
    · have h := ite_t hc8 h
      exact wp_pick (ks := [0, 1, 2, 3]) rfl (kx _ (sji h).symm)
    · have h := ite_f hc8 h
      refine wp_iload dX10_otherCapacities_80 rfl ?_
      refine wp_aload_n dX10_otherCapacities_82 rfl rfl ?_
      refine wp_getR dX10_otherCapacities_83 flX10_20 rfl (sk0 hS) (sn0 hS) (sr0_6 hS) ?_
      refine wp_getR dX10_otherCapacities_86 flX10_228 rfl (sk2 hS) (sn2 hS) (sr2_6 hS) ?_
      refine wp_iload_n dX10_otherCapacities_89 rfl rfl ?_
      obtain ⟨hb9, h⟩ := ck_inv h
      refine wp_iald dX10_otherCapacities_90 (sk6 hS) (sn6 hS) hb9 ?_
      refine wp_icmp_eq (tgt := 109) dX10_otherCapacities_91 (by decide) (fun hc10 => ?_) (fun hc10 => ?_)
      · have h := ite_t hc10 h
        refine wp_iinc (v := 1) (ls' := [(6, .int (v6 + 1)), (0, .ref 0), (1, .int k1), (2, .int v2), (3, .int k3), (5, .int k5)]) dX10_otherCapacities_109 rfl (by decide) (Nat.le_of_ble_eq_true rfl) rfl ?_
        refine wp_goto (tgt := 73) dX10_otherCapacities_112 (by decide) ?_
        exact wp_pick (ks := [1, 2, 3, 4, 5, 0]) rfl (ih _ _ _ h kx kr)
      · have h := ite_f hc10 h
        refine wp_iload_n dX10_otherCapacities_94 rfl rfl ?_
        refine wp_if_eq (tgt := 106) dX10_otherCapacities_95 (by decide) (fun hc11 => ?_) (fun hc11 => ?_)
        · have h := ite_t hc11 h
          refine wp_iinc (v := 1) (ls' := [(2, .int (v2 + 1)), (0, .ref 0), (1, .int k1), (3, .int k3), (5, .int k5), (6, .int v6)]) dX10_otherCapacities_106 rfl (by decide) (Nat.le_of_ble_eq_true rfl) rfl ?_
          refine wp_iinc (v := 1) (ls' := [(6, .int (v6 + 1)), (2, .int (v2 + 1)), (0, .ref 0), (1, .int k1), (3, .int k3), (5, .int k5)]) dX10_otherCapacities_109 rfl (by decide) (Nat.le_of_ble_eq_true rfl) rfl ?_
          refine wp_goto (tgt := 73) dX10_otherCapacities_112 (by decide) ?_
          exact wp_pick (ks := [2, 3, 1, 4, 5, 0]) rfl (ih _ _ _ h kx kr)
        · have h := ite_f hc11 h
          refine wp_bipush (v := 100) dX10_otherCapacities_98 (by decide) ?_
          refine wp_iload_n dX10_otherCapacities_100 rfl rfl ?_
          refine wp_imul dX10_otherCapacities_101 ?_
          refine wp_iload dX10_otherCapacities_102 rfl ?_
          refine wp_iadd dX10_otherCapacities_104 ?_
          exact wp_iret dX10_otherCapacities_105 rfl (kr _ _ (sji h).symm)
set_option maxHeartbeats 4000000 in
set_option maxRecDepth 100000 in
theorem wX10_otherCapacities_4 (N : Nat) (d : Nat) (hd : 3 ≤ d) {S : gS} {J : gJ} (hS : Sh S)  (k1 : Int32) {Q : gO → gS → gI → gJ → Prop} :
    ∀ (n : Nat) (v2 : Int32) (v3 : Int32) (I : gI) (res : (Int32 × gI) ⊕ (Int32 × gI)), mX10_otherCapacities_4 N k1 n v2 v3 I = some res → (∀ (o2 : Int32) (O : gI), res = Sum.inl (o2, O) → Wp RX10 cX10_otherCapacities 7 (some .int) [] hF d 0 0 121 [(1, .int k1), (2, .int o2)] [] S O J Q) → (∀ (r : Int32) (O : gI), res = Sum.inr (r, O) → Q (.inl (some (.int r))) S O J) → Wp RX10 cX10_otherCapacities 7 (some .int) [] hF d 0 0 4 [(0, .ref 0), (1, .int k1), (2, .int v2), (3, .int v3)] [] S I J Q := by
  intro n
  induction n with
  | zero => intro v2 v3 I res h; exact nso h
  | succ n ih =>
    intro v2 v3 I res h kx kr
    rw [mX10_otherCapacities_4] at h
    refine wp_iload_n dX10_otherCapacities_4 rfl rfl ?_
    refine wp_aload_n dX10_otherCapacities_5 rfl rfl ?_
    refine wp_getR dX10_otherCapacities_6 flX10_20 rfl (sk0 hS) (sn0 hS) (sr0_6 hS) ?_
    refine wp_getI dX10_otherCapacities_9 flX10_135 rfl (sk2 hS) (sn2 hS) ?_
    refine wp_icmp_ge (tgt := 121) dX10_otherCapacities_12 (by decide) (fun hc1 => ?_) (fun hc1 => ?_)
    · have h := ite_t hc1 h
      exact wp_pick (ks := [1, 2]) rfl (kx _ _ (sji h).symm)
    · have h := ite_f hc1 h
      refine wp_aload_n dX10_otherCapacities_15 rfl rfl ?_
      refine wp_getR dX10_otherCapacities_16 flX10_81 rfl (sk0 hS) (sn0 hS) (sr0_15 hS) ?_
      refine wp_aload_n dX10_otherCapacities_19 rfl rfl ?_
      refine wp_getR dX10_otherCapacities_20 flX10_58 rfl (sk0 hS) (sn0 hS) (sr0_12 hS) ?_
      refine wp_aload_n dX10_otherCapacities_23 rfl rfl ?_
      refine wp_getR dX10_otherCapacities_24 flX10_39 rfl (sk0 hS) (sn0 hS) (sr0_9 hS) ?_
      refine wp_iload_n dX10_otherCapacities_27 rfl rfl ?_
      obtain ⟨I2, hF3, h⟩ := obi h
      refine wp_callVNv (ci := 7) (As := [.ref 42, .ref 30, .int v3]) dX10_otherCapacities_28 lbX7_bound mnX10_380 imX7_bound seX7_bound vc7 (ct_X7_bound N 2 (Nat.le_refl _) hS (le42 hS) hF3) rfl rfl (Nat.le_trans (by decide) hd) (sk173 hS) (sn173 hS) (Nat.le_of_ble_eq_true rfl) (fun _ => ?_)
      refine wp_aload_n dX10_otherCapacities_31 rfl rfl ?_
      refine wp_getR dX10_otherCapacities_32 flX10_81 rfl (sk0 hS) (sn0 hS) (sr0_15 hS) ?_
      refine wp_getI dX10_otherCapacities_35 flX10_384 rfl (sk173 hS) (sn173 hS) ?_
      refine wp_iconst (v := 1) dX10_otherCapacities_38 (by decide) ?_
      refine wp_aload_n dX10_otherCapacities_39 rfl rfl ?_
      refine wp_getR dX10_otherCapacities_40 flX10_58 rfl (sk0 hS) (sn0 hS) (sr0_12 hS) ?_
      refine wp_iload_n dX10_otherCapacities_43 rfl rfl ?_
      obtain ⟨r4, hF5, h⟩ := obi h
      refine wp_callVNi (ci := 2) (As := [.int v3]) dX10_otherCapacities_44 lbX2_taken mnX10_234 imX2_taken seX2_taken vc2 (ct_X2_taken N 1 (Nat.le_refl _) hS (le42 hS) hF5) rfl rfl (Nat.le_trans (by decide) hd) (sk42 hS) (sn42 hS) (Nat.le_of_ble_eq_true rfl) (fun _ => ?_)
      refine wp_max dX10_otherCapacities_47 mlX10_387 ma_max1 ma_2 ma_max3 (Nat.le_trans (by decide) hd) (Nat.le_of_ble_eq_true rfl) ?_
      refine wp_max dX10_otherCapacities_50 mlX10_387 ma_max1 ma_2 ma_max3 (Nat.le_trans (by decide) hd) (Nat.le_of_ble_eq_true rfl) ?_
      obtain ⟨x6, hx7, h⟩ := nm_inv h
      refine wp_topi hx7 ?_
      refine wp_istore (ls' := [(4, .int x6), (0, .ref 0), (1, .int k1), (2, .int v2), (3, .int v3)]) dX10_otherCapacities_53 (Nat.le_of_ble_eq_true rfl) rfl ?_
      refine wp_aload_n dX10_otherCapacities_55 rfl rfl ?_
      refine wp_getR dX10_otherCapacities_56 flX10_81 rfl (sk0 hS) (sn0 hS) (sr0_15 hS) ?_
      refine wp_getI dX10_otherCapacities_59 flX10_393 rfl (sk173 hS) (sn173 hS) ?_
      refine wp_bipush (v := 20) dX10_otherCapacities_62 (by decide) ?_
      refine wp_min dX10_otherCapacities_64 mlX10_396 ma_min1 ma_2 ma_min3 (Nat.le_trans (by decide) hd) (Nat.le_of_ble_eq_true rfl) ?_
      refine wp_istore (ls' := [(5, .int (if 20 < (I2 173 7) then 20 else (I2 173 7))), (4, .int x6), (0, .ref 0), (1, .int k1), (2, .int v2), (3, .int v3)]) dX10_otherCapacities_67 (Nat.le_of_ble_eq_true rfl) rfl ?_
      refine wp_iload dX10_otherCapacities_69 rfl ?_
      refine wp_istore (ls' := [(6, .int x6), (5, .int (if 20 < (I2 173 7) then 20 else (I2 173 7))), (4, .int x6), (0, .ref 0), (1, .int k1), (2, .int v2), (3, .int v3)]) dX10_otherCapacities_71 (Nat.le_of_ble_eq_true rfl) rfl ?_
      rcases lbi h with ⟨y12, hL913, h⟩ | ⟨⟨r15, I16⟩, hL913, h⟩
      · refine wp_pick (ks := [3, 4, 5, 6, 1, 0]) rfl (wX10_otherCapacities_73 d hd hS  k1 v3 (if 20 < (I2 173 7) then 20 else (I2 173 7)) I2 N v2 x6 _ hL913 (fun _ e14 => ?_) (fun _ _ e9 => by cases e9))
        cases e14
        refine wp_iinc (v := 1) (ls' := [(3, .int (v3 + 1)), (0, .ref 0), (1, .int k1), (2, .int y12)]) dX10_otherCapacities_115 rfl (by decide) (Nat.le_of_ble_eq_true rfl) rfl ?_
        refine wp_goto (tgt := 4) dX10_otherCapacities_118 (by decide) ?_
        exact wp_pick (ks := [1, 2, 3, 0]) rfl (ih _ _ _ _ h kx kr)
      · refine wp_pick (ks := [3, 4, 5, 6, 1, 0]) rfl (wX10_otherCapacities_73 d hd hS  k1 v3 (if 20 < (I2 173 7) then 20 else (I2 173 7)) I2 N v2 x6 _ hL913 (fun _ e9 => by cases e9) (fun _ _ e14 => ?_))
        cases e14
        exact (kr _ _ (sji h).symm)
set_option maxHeartbeats 4000000 in
set_option maxRecDepth 100000 in
theorem ct_X10_otherCapacities (N : Nat) (d : Nat) (hd : 3 ≤ d) {S : gS} {J : gJ} (hS : Sh S)  {a2 : Int32} {I : gI} {r : Int32 × gI} (h : mX10_otherCapacities N a2 I = some r) : Ct yX10_otherCapacities (wsY yX10_otherCapacities cX10_otherCapacities 7 (some .int)) d 0 0 [.ref 0, .int a2] S I J (qE (.inl (some (.int r.1))) S r.2 J) := by
  refine Ct.of hF (fun _ _ _ _ _ => trivial) (by decide +kernel) (Nat.le_of_ble_eq_true rfl) ⟨Or.inl (sn0 hS), trivial, trivial⟩ ?_
  show Wp RX10 cX10_otherCapacities 7 (some .int) [] hF d 0 0 0 [(0, .ref 0), (1, .int a2)] [] S I J _
  unfold mX10_otherCapacities at h
  refine wp_iconst (v := 0) dX10_otherCapacities_0 (by decide) ?_
  refine wp_istore_n (ls' := [(2, .int 0), (0, .ref 0), (1, .int a2)]) dX10_otherCapacities_1 rfl (Nat.le_of_ble_eq_true rfl) rfl ?_
  refine wp_iconst (v := 0) dX10_otherCapacities_2 (by decide) ?_
  refine wp_istore_n (ls' := [(3, .int 0), (2, .int 0), (0, .ref 0), (1, .int a2)]) dX10_otherCapacities_3 rfl (Nat.le_of_ble_eq_true rfl) rfl ?_
  rcases lbi h with ⟨⟨y17, I18⟩, hL920, h⟩ | ⟨⟨r22, I23⟩, hL920, h⟩
  · refine wp_pick (ks := [2, 3, 1, 0]) rfl (wX10_otherCapacities_4 N d hd hS  a2 N 0 0 I _ hL920 (fun _ _ e21 => ?_) (fun _ _ e9 => by cases e9))
    cases e21
    refine wp_iload_n dX10_otherCapacities_121 rfl rfl ?_
    refine wp_if_eq (tgt := 129) dX10_otherCapacities_122 (by decide) (fun hc19 => ?_) (fun hc19 => ?_)
    · have h := ite_t hc19 h
      refine wp_iload_n dX10_otherCapacities_129 rfl rfl ?_
      exact wp_iret dX10_otherCapacities_130 rfl (by obtain rfl := sji h; exact ⟨rfl, rfl, rfl, rfl⟩)
    · have h := ite_f hc19 h
      refine wp_iconst (v := (-1)) dX10_otherCapacities_125 (by decide) ?_
      refine wp_goto (tgt := 130) dX10_otherCapacities_126 (by decide) ?_
      exact wp_iret dX10_otherCapacities_130 rfl (by obtain rfl := sji h; exact ⟨rfl, rfl, rfl, rfl⟩)
  · refine wp_pick (ks := [2, 3, 1, 0]) rfl (wX10_otherCapacities_4 N d hd hS  a2 N 0 0 I _ hL920 (fun _ _ e9 => by cases e9) (fun _ _ e21 => ?_))
    cases e21
    exact (by obtain rfl := sji h; exact ⟨rfl, rfl, rfl, rfl⟩)
