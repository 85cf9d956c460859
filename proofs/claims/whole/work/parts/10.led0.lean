def mX4_clear (I : gI) : Option (gI) := some (upd2 (upd2 (upd2 I 2 0 2) 2 1 0) 2 2 0)
set_option maxHeartbeats 4000000 in
set_option maxRecDepth 100000 in
theorem ct_X4_clear (d : Nat) (hd : 0 ≤ d) {S : gS} {J : gJ} (hS : Sh S)  {I : gI} {r : gI} (h : mX4_clear I = some r) : Ct yX4_clear (wsY yX4_clear cX4_clear 1 none) d 0 0 [.ref 2] S I J (qE (.inl none) S r J) := by
  refine Ct.of hF (fun _ _ _ _ _ => trivial) (by decide +kernel) (Nat.le_of_ble_eq_true rfl) ⟨Or.inl (sn2 hS), trivial⟩ ?_
  show Wp RX4 cX4_clear 1 none [] hF d 0 0 0 [(0, .ref 2)] [] S I J _
  unfold mX4_clear at h
  refine wp_aload_n dX4_clear_0 rfl rfl ?_
  refine wp_iconst (v := 2) dX4_clear_1 (by decide) ?_
  refine wp_putI dX4_clear_2 (Or.inl fpX4_9) rfl ⟨rfl, rfl⟩ (sk2 hS) (sn2 hS) ?_
  refine wp_aload_n dX4_clear_5 rfl rfl ?_
  refine wp_iconst (v := 0) dX4_clear_6 (by decide) ?_
  refine wp_putI dX4_clear_7 (Or.inl fpX4_52) rfl ⟨rfl, rfl⟩ (sk2 hS) (sn2 hS) ?_
  refine wp_aload_n dX4_clear_10 rfl rfl ?_
  refine wp_iconst (v := 0) dX4_clear_11 (by decide) ?_
  refine wp_putI dX4_clear_12 (Or.inl fpX4_55) rfl ⟨rfl, rfl⟩ (sk2 hS) (sn2 hS) ?_
  exact wp_vret dX4_clear_15 rfl (by obtain rfl := sji h; exact ⟨rfl, rfl, rfl, rfl⟩)
def mX4_metricOf_4 (k1 : Int32) (I : gI) : Nat → Int32 → Int32 → Option (Int32)
  | 0, _, _ => none
  | n + 1, v2, v3 => if (I 2 1) ≤ v3 then (some v2) else (if ((ushr k1 v3) &&& 1) = 0 then (mX4_metricOf_4 k1 I n v2 (v3 + 1)) else (ck v3 16 (mX4_metricOf_4 k1 I n (v2 + (I 5 v3.toNatClampNeg)) (v3 + 1))))
def mX4_metricOf (N : Nat) (a2 : Int32) (I : gI) : Option (Int32) := Option.bind (mX4_metricOf_4 a2 I N 0 0) (fun y4 => some y4)
set_option maxHeartbeats 4000000 in
set_option maxRecDepth 100000 in
theorem wX4_metricOf_4 (d : Nat) (hd : 0 ≤ d) {S : gS} {J : gJ} (hS : Sh S)  (k1 : Int32) (I : gI) {Q : gO → gS → gI → gJ → Prop} :
    ∀ (n : Nat) (v2 : Int32) (v3 : Int32) (res : Int32), mX4_metricOf_4 k1 I n v2 v3 = some res → (∀ (o2 : Int32), res = o2 → Wp RX4 cX4_metricOf 4 (some .int) [] hF d 0 0 35 [(2, .int o2)] [] S I J Q) → Wp RX4 cX4_metricOf 4 (some .int) [] hF d 0 0 4 [(0, .ref 2), (1, .int k1), (2, .int v2), (3, .int v3)] [] S I J Q := by
  intro n
  induction n with
  | zero => intro v2 v3 res h; exact nso h
  | succ n ih =>
    intro v2 v3 res h kx
    rw [mX4_metricOf_4] at h
    refine wp_iload_n dX4_metricOf_4 rfl rfl ?_
    refine wp_aload_n dX4_metricOf_5 rfl rfl ?_
    refine wp_getI dX4_metricOf_6 flX4_52 rfl (sk2 hS) (sn2 hS) ?_
    refine wp_icmp_ge (tgt := 35) dX4_metricOf_9 (by decide) (fun hc1 => ?_) (fun hc1 => ?_)
    · have h := ite_t hc1 h
      exact wp_pick (ks := [2]) rfl (kx _ (sji h).symm)
    · have h := ite_f hc1 h
      refine wp_iload_n dX4_metricOf_12 rfl rfl ?_
      refine wp_iload_n dX4_metricOf_13 rfl rfl ?_
      refine wp_iushr dX4_metricOf_14 ?_
      refine wp_iconst (v := 1) dX4_metricOf_15 (by decide) ?_
      refine wp_iand dX4_metricOf_16 ?_
      refine wp_if_eq (tgt := 29) dX4_metricOf_17 (by decide) (fun hc2 => ?_) (fun hc2 => ?_)
      · have h := ite_t hc2 h
        refine wp_iinc (v := 1) (ls' := [(3, .int (v3 + 1)), (0, .ref 2), (1, .int k1), (2, .int v2)]) dX4_metricOf_29 rfl (by decide) (Nat.le_of_ble_eq_true rfl) rfl ?_
        refine wp_goto (tgt := 4) dX4_metricOf_32 (by decide) ?_
        exact wp_pick (ks := [1, 2, 3, 0]) rfl (ih _ _ _ h kx)
      · have h := ite_f hc2 h
        refine wp_iload_n dX4_metricOf_20 rfl rfl ?_
        refine wp_aload_n dX4_metricOf_21 rfl rfl ?_
        refine wp_getR dX4_metricOf_22 flX4_22 rfl (sk2 hS) (sn2 hS) (sr2_5 hS) ?_
        refine wp_iload_n dX4_metricOf_25 rfl rfl ?_
        obtain ⟨hb3, h⟩ := ck_inv h
        refine wp_iald dX4_metricOf_26 (sk5 hS) (sn5 hS) hb3 ?_
        refine wp_iadd dX4_metricOf_27 ?_
        refine wp_istore_n (ls' := [(2, .int (v2 + (I 5 v3.toNatClampNeg))), (0, .ref 2), (1, .int k1), (3, .int v3)]) dX4_metricOf_28 rfl (Nat.le_of_ble_eq_true rfl) rfl ?_
        refine wp_iinc (v := 1) (ls' := [(3, .int (v3 + 1)), (2, .int (v2 + (I 5 v3.toNatClampNeg))), (0, .ref 2), (1, .int k1)]) dX4_metricOf_29 rfl (by decide) (Nat.le_of_ble_eq_true rfl) rfl ?_
        refine wp_goto (tgt := 4) dX4_metricOf_32 (by decide) ?_
        exact wp_pick (ks := [2, 3, 1, 0]) rfl (ih _ _ _ h kx)
set_option maxHeartbeats 4000000 in
set_option maxRecDepth 100000 in
theorem ct_X4_metricOf (N : Nat) (d : Nat) (hd : 0 ≤ d) {S : gS} {J : gJ} (hS : Sh S)  {a2 : Int32} {I : gI} {r : Int32} (h : mX4_metricOf N a2 I = some r) : Ct yX4_metricOf (wsY yX4_metricOf cX4_metricOf 4 (some .int)) d 0 0 [.ref 2, .int a2] S I J (qE (.inl (some (.int r))) S I J) := by
  refine Ct.of hF (fun _ _ _ _ _ => trivial) (by decide +kernel) (Nat.le_of_ble_eq_true rfl) ⟨Or.inl (sn2 hS), trivial, trivial⟩ ?_
  show Wp RX4 cX4_metricOf 4 (some .int) [] hF d 0 0 0 [(0, .ref 2), (1, .int a2)] [] S I J _
  unfold mX4_metricOf at h
  refine wp_iconst (v := 0) dX4_metricOf_0 (by decide) ?_
  refine wp_istore_n (ls' := [(2, .int 0), (0, .ref 2), (1, .int a2)]) dX4_metricOf_1 rfl (Nat.le_of_ble_eq_true rfl) rfl ?_
  refine wp_iconst (v := 0) dX4_metricOf_2 (by decide) ?_
  refine wp_istore_n (ls' := [(3, .int 0), (2, .int 0), (0, .ref 2), (1, .int a2)]) dX4_metricOf_3 rfl (Nat.le_of_ble_eq_true rfl) rfl ?_
  obtain ⟨y4, hL95, h⟩ := obi h
  refine wp_pick (ks := [2, 3, 1, 0]) rfl (wX4_metricOf_4 d hd hS  a2 I N 0 0 _ hL95 (fun _ e6 => ?_))
  cases e6
  refine wp_iload_n dX4_metricOf_35 rfl rfl ?_
  exact wp_iret dX4_metricOf_36 rfl (by obtain rfl := sji h; exact ⟨rfl, rfl, rfl, rfl⟩)
def mX4_linkFrom_2 (k1 : Int32) (k2 : Int32) (I : gI) : Nat → Int32 → Option ((Unit) ⊕ (Int32))
  | 0, _ => none
  | n + 1, v3 => if (I 2 1) ≤ v3 then (some (.inl ())) else (if ((ushr k1 v3) &&& 1) = 0 then (mX4_linkFrom_2 k1 k2 I n (v3 + 1)) else (ck v3 16 (if (I 3 v3.toNatClampNeg) = k2 then (some (.inr v3)) else (mX4_linkFrom_2 k1 k2 I n (v3 + 1)))))
def mX4_linkFrom (N : Nat) (a2 : Int32) (a3 : Int32) (I : gI) : Option (Int32) := lbind (mX4_linkFrom_2 a2 a3 I N 0) (fun _ => some (-1)) (fun r7 => some r7)
set_option maxHeartbeats 4000000 in
set_option maxRecDepth 100000 in
theorem wX4_linkFrom_2 (d : Nat) (hd : 0 ≤ d) {S : gS} {J : gJ} (hS : Sh S)  (k1 : Int32) (k2 : Int32) (I : gI) {Q : gO → gS → gI → gJ → Prop} :
    ∀ (n : Nat) (v3 : Int32) (res : (Unit) ⊕ (Int32)), mX4_linkFrom_2 k1 k2 I n v3 = some res → (res = Sum.inl () → Wp RX4 cX4_linkFrom 4 (some .int) [] hF d 0 0 36 [] [] S I J Q) → (∀ (r : Int32), res = Sum.inr r → Q (.inl (some (.int r))) S I J) → Wp RX4 cX4_linkFrom 4 (some .int) [] hF d 0 0 2 [(0, .ref 2), (1, .int k1), (2, .int k2), (3, .int v3)] [] S I J Q := by
  intro n
  induction n with
  | zero => intro v3 res h; exact nso h
  | succ n ih =>
    intro v3 res h kx kr
    rw [mX4_linkFrom_2] at h
    refine wp_iload_n dX4_linkFrom_2 rfl rfl ?_
    refine wp_aload_n dX4_linkFrom_3 rfl rfl ?_
    refine wp_getI dX4_linkFrom_4 flX4_52 rfl (sk2 hS) (sn2 hS) ?_
    refine wp_icmp_ge (tgt := 36) dX4_linkFrom_7 (by decide) (fun hc1 => ?_) (fun hc1 => ?_)
    · have h := ite_t hc1 h
      exact wp_pick (ks := []) rfl (kx (sji h).symm)
    · have h := ite_f hc1 h
      refine wp_iload_n dX4_linkFrom_10 rfl rfl ?_
      refine wp_iload_n dX4_linkFrom_11 rfl rfl ?_
      refine wp_iushr dX4_linkFrom_12 ?_
      refine wp_iconst (v := 1) dX4_linkFrom_13 (by decide) ?_
      refine wp_iand dX4_linkFrom_14 ?_
      refine wp_if_eq (tgt := 30) dX4_linkFrom_15 (by decide) (fun hc2 => ?_) (fun hc2 => ?_)
      · have h := ite_t hc2 h
        refine wp_iinc (v := 1) (ls' := [(3, .int (v3 + 1)), (0, .ref 2), (1, .int k1), (2, .int k2)]) dX4_linkFrom_30 rfl (by decide) (Nat.le_of_ble_eq_true rfl) rfl ?_
        refine wp_goto (tgt := 2) dX4_linkFrom_33 (by decide) ?_
        exact wp_pick (ks := [1, 2, 3, 0]) rfl (ih _ _ h kx kr)
      · have h := ite_f hc2 h
        refine wp_aload_n dX4_linkFrom_18 rfl rfl ?_
        refine wp_getR dX4_linkFrom_19 flX4_15 rfl (sk2 hS) (sn2 hS) (sr2_3 hS) ?_
        refine wp_iload_n dX4_linkFrom_22 rfl rfl ?_
        obtain ⟨hb3, h⟩ := ck_inv h
        refine wp_iald dX4_linkFrom_23 (sk3 hS) (sn3 hS) hb3 ?_
        refine wp_iload_n dX4_linkFrom_24 rfl rfl ?_
        refine wp_icmp_ne (tgt := 30) dX4_linkFrom_25 (by decide) (fun hc4 => ?_) (fun hc4 => ?_)
        · have h := ite_f hc4 h
          refine wp_iinc (v := 1) (ls' := [(3, .int (v3 + 1)), (0, .ref 2), (1, .int k1), (2, .int k2)]) dX4_linkFrom_30 rfl (by decide) (Nat.le_of_ble_eq_true rfl) rfl ?_
          refine wp_goto (tgt := 2) dX4_linkFrom_33 (by decide) ?_
          exact wp_pick (ks := [1, 2, 3, 0]) rfl (ih _ _ h kx kr)
        · have h := ite_t hc4 h
          refine wp_iload_n dX4_linkFrom_28 rfl rfl ?_
          exact wp_iret dX4_linkFrom_29 rfl (kr _ (sji h).symm)
set_option maxHeartbeats 4000000 in
set_option maxRecDepth 100000 in
theorem ct_X4_linkFrom (N : Nat) (d : Nat) (hd : 0 ≤ d) {S : gS} {J : gJ} (hS : Sh S)  {a2 : Int32} {a3 : Int32} {I : gI} {r : Int32} (h : mX4_linkFrom N a2 a3 I = some r) : Ct yX4_linkFrom (wsY yX4_linkFrom cX4_linkFrom 4 (some .int)) d 0 0 [.ref 2, .int a2, .int a3] S I J (qE (.inl (some (.int r))) S I J) := by
  refine Ct.of hF (fun _ _ _ _ _ => trivial) (by decide +kernel) (Nat.le_of_ble_eq_true rfl) ⟨Or.inl (sn2 hS), trivial, trivial, trivial⟩ ?_
  show Wp RX4 cX4_linkFrom 4 (some .int) [] hF d 0 0 0 [(0, .ref 2), (1, .int a2), (2, .int a3)] [] S I J _
  unfold mX4_linkFrom at h
  refine wp_iconst (v := 0) dX4_linkFrom_0 (by decide) ?_
  refine wp_istore_n (ls' := [(3, .int 0), (0, .ref 2), (1, .int a2), (2, .int a3)]) dX4_linkFrom_1 rfl (Nat.le_of_ble_eq_true rfl) rfl ?_
  rcases lbi h with ⟨⟨⟩, hL95, h⟩ | ⟨r7, hL95, h⟩
  · refine wp_pick (ks := [1, 2, 3, 0]) rfl (wX4_linkFrom_2 d hd hS  a2 a3 I N 0 _ hL95 (fun  e6 => ?_) (fun _ e9 => by cases e9))
    cases e6
    refine wp_iconst (v := (-1)) dX4_linkFrom_36 (by decide) ?_
    exact wp_iret dX4_linkFrom_37 rfl (by obtain rfl := sji h; exact ⟨rfl, rfl, rfl, rfl⟩)
  · refine wp_pick (ks := [1, 2, 3, 0]) rfl (wX4_linkFrom_2 d hd hS  a2 a3 I N 0 _ hL95 (fun  e9 => by cases e9) (fun _ e6 => ?_))
    cases e6
    exact (by obtain rfl := sji h; exact ⟨rfl, rfl, rfl, rfl⟩)
def mX4_linkAt_6 (N : Nat) (k1 : Int32) (k3 : Int32) (I : gI) : Nat → Int32 → Int32 → Option ((Unit) ⊕ (Int32))
  | 0, _, _ => none
  | n + 1, v4, v5 => if 7 ≤ v5 then (some (.inl ())) else (Option.bind (mX4_linkFrom N k1 v4 I) (fun r2 => if r2 = (-1) then (some (.inr r2)) else (if v5 = k3 then (some (.inr r2)) else (ck r2 16 (mX4_linkAt_6 N k1 k3 I n (I 4 r2.toNatClampNeg) (v5 + 1))))))
def mX4_linkAt (N : Nat) (a2 : Int32) (a3 : Int32) (a4 : Int32) (I : gI) : Option (Int32) := lbind (mX4_linkAt_6 N a2 a4 I N a3 0) (fun _ => some (-1)) (fun r9 => some r9)
set_option maxHeartbeats 4000000 in
set_option maxRecDepth 100000 in
theorem wX4_linkAt_6 (N : Nat) (d : Nat) (hd : 1 ≤ d) {S : gS} {J : gJ} (hS : Sh S)  (k1 : Int32) (k3 : Int32) (I : gI) {Q : gO → gS → gI → gJ → Prop} :
    ∀ (n : Nat) (v4 : Int32) (v5 : Int32) (res : (Unit) ⊕ (Int32)), mX4_linkAt_6 N k1 k3 I n v4 v5 = some res → (res = Sum.inl () → Wp RX4 cX4_linkAt 7 (some .int) [] hF d 0 0 52 [] [] S I J Q) → (∀ (r : Int32), res = Sum.inr r → Q (.inl (some (.int r))) S I J) → Wp RX4 cX4_linkAt 7 (some .int) [] hF d 0 0 6 [(0, .ref 2), (1, .int k1), (3, .int k3), (4, .int v4), (5, .int v5)] [] S I J Q := by
  intro n
  induction n with
  | zero => intro v4 v5 res h; exact nso h
  | succ n ih =>
    intro v4 v5 res h kx kr
    rw [mX4_linkAt_6] at h
    refine wp_iload dX4_linkAt_6 rfl ?_
    refine wp_bipush (v := 7) dX4_linkAt_8 (by decide) ?_
    refine wp_icmp_ge (tgt := 52) dX4_linkAt_10 (by decide) (fun hc1 => ?_) (fun hc1 => ?_)
    · have h := ite_t hc1 h
      exact wp_pick (ks := []) rfl (kx (sji h).symm)
    · have h := ite_f hc1 h
      refine wp_aload_n dX4_linkAt_13 rfl rfl ?_
      refine wp_iload_n dX4_linkAt_14 rfl rfl ?_
      refine wp_iload dX4_linkAt_15 rfl ?_
      obtain ⟨r2, hF3, h⟩ := obi h
      refine wp_callVi (ci := 4) (As := [.int k1, .int v4]) dX4_linkAt_17 lbX4_linkFrom mlX4_64 imX4_linkFrom seX4_linkFrom vc4 (ct_X4_linkFrom N 0 (Nat.le_refl _) hS  hF3) rfl rfl (Nat.le_trans (by decide) hd) (sk2 hS) (sn2 hS) (Nat.le_of_ble_eq_true rfl) (fun _ => ?_)
      refine wp_istore (ls' := [(6, .int r2), (0, .ref 2), (1, .int k1), (3, .int k3), (4, .int v4), (5, .int v5)]) dX4_linkAt_20 (Nat.le_of_ble_eq_true rfl) rfl ?_
      refine wp_iload dX4_linkAt_22 rfl ?_
      refine wp_iconst (v := (-1)) dX4_linkAt_24 (by decide) ?_
      refine wp_icmp_eq (tgt := 34) dX4_linkAt_25 (by decide) (fun hc4 => ?_) (fun hc4 => ?_)
      · have h := ite_t hc4 h
        refine wp_iload dX4_linkAt_34 rfl ?_
        exact wp_iret dX4_linkAt_36 rfl (kr _ (sji h).symm)
      · have h := ite_f hc4 h
        refine wp_iload dX4_linkAt_28 rfl ?_
        refine wp_iload_n dX4_linkAt_30 rfl rfl ?_
        refine wp_icmp_ne (tgt := 37) dX4_linkAt_31 (by decide) (fun hc5 => ?_) (fun hc5 => ?_)
        · have h := ite_f hc5 h
          refine wp_aload_n dX4_linkAt_37 rfl rfl ?_
          refine wp_getR dX4_linkAt_38 flX4_19 rfl (sk2 hS) (sn2 hS) (sr2_4 hS) ?_
          refine wp_iload dX4_linkAt_41 rfl ?_
          obtain ⟨hb6, h⟩ := ck_inv h
          refine wp_iald dX4_linkAt_43 (sk4 hS) (sn4 hS) hb6 ?_
          refine wp_istore (ls' := [(4, .int (I 4 r2.toNatClampNeg)), (6, .int r2), (0, .ref 2), (1, .int k1), (3, .int k3), (5, .int v5)]) dX4_linkAt_44 (Nat.le_of_ble_eq_true rfl) rfl ?_
          refine wp_iinc (v := 1) (ls' := [(5, .int (v5 + 1)), (4, .int (I 4 r2.toNatClampNeg)), (6, .int r2), (0, .ref 2), (1, .int k1), (3, .int k3)]) dX4_linkAt_46 rfl (by decide) (Nat.le_of_ble_eq_true rfl) rfl ?_
          refine wp_goto (tgt := 6) dX4_linkAt_49 (by decide) ?_
          exact wp_pick (ks := [3, 4, 5, 1, 0]) rfl (ih _ _ _ h kx kr)
        · have h := ite_t hc5 h
          refine wp_iload dX4_linkAt_34 rfl ?_
          exact wp_iret dX4_linkAt_36 rfl (kr _ (sji h).symm)
set_option maxHeartbeats 4000000 in
set_option maxRecDepth 100000 in
theorem ct_X4_linkAt (N : Nat) (d : Nat) (hd : 1 ≤ d) {S : gS} {J : gJ} (hS : Sh S)  {a2 : Int32} {a3 : Int32} {a4 : Int32} {I : gI} {r : Int32} (h : mX4_linkAt N a2 a3 a4 I = some r) : Ct yX4_linkAt (wsY yX4_linkAt cX4_linkAt 7 (some .int)) d 0 0 [.ref 2, .int a2, .int a3, .int a4] S I J (qE (.inl (some (.int r))) S I J) := by
  refine Ct.of hF (fun _ _ _ _ _ => trivial) (by decide +kernel) (Nat.le_of_ble_eq_true rfl) ⟨Or.inl (sn2 hS), trivial, trivial, trivial, trivial⟩ ?_
  show Wp RX4 cX4_linkAt 7 (some .int) [] hF d 0 0 0 [(0, .ref 2), (1, .int a2), (2, .int a3), (3, .int a4)] [] S I J _
  unfold mX4_linkAt at h
  refine wp_iload_n dX4_linkAt_0 rfl rfl ?_
  refine wp_istore (ls' := [(4, .int a3), (0, .ref 2), (1, .int a2), (2, .int a3), (3, .int a4)]) dX4_linkAt_1 (Nat.le_of_ble_eq_true rfl) rfl ?_
  refine wp_iconst (v := 0) dX4_linkAt_3 (by decide) ?_
  refine wp_istore (ls' := [(5, .int 0), (4, .int a3), (0, .ref 2), (1, .int a2), (2, .int a3), (3, .int a4)]) dX4_linkAt_4 (Nat.le_of_ble_eq_true rfl) rfl ?_
  rcases lbi h with ⟨⟨⟩, hL97, h⟩ | ⟨r9, hL97, h⟩
  · refine wp_pick (ks := [2, 3, 5, 1, 0]) rfl (wX4_linkAt_6 N d hd hS  a2 a4 I N a3 0 _ hL97 (fun  e8 => ?_) (fun _ e9 => by cases e9))
    cases e8
    refine wp_iconst (v := (-1)) dX4_linkAt_52 (by decide) ?_
    exact wp_iret dX4_linkAt_53 rfl (by obtain rfl := sji h; exact ⟨rfl, rfl, rfl, rfl⟩)
  · refine wp_pick (ks := [2, 3, 5, 1, 0]) rfl (wX4_linkAt_6 N d hd hS  a2 a4 I N a3 0 _ hL97 (fun  e9 => by cases e9) (fun _ e8 => ?_))
    cases e8
    exact (by obtain rfl := sji h; exact ⟨rfl, rfl, rfl, rfl⟩)
def mX4_copyFrom (I : gI) : Option (gI) := nm ((upd2 (upd2 I 2 0 (I 15 0)) 2 1 ((upd2 I 2 0 (I 15 0)) 15 1)) 15 2) (fun x1 => nm (upd2 (upd2 (upd2 I 2 0 (I 15 0)) 2 1 ((upd2 I 2 0 (I 15 0)) 15 1)) 2 2 x1) (fun I3 => nm (updRow I3 3 (va_cpy (I3 16) (I3 3) (0 : Int32).toNatClampNeg (0 : Int32).toNatClampNeg (16 : Int32).toNatClampNeg)) (fun I5 => nm (updRow I5 4 (va_cpy (I5 17) (I5 4) (0 : Int32).toNatClampNeg (0 : Int32).toNatClampNeg (16 : Int32).toNatClampNeg)) (fun I7 => nm (updRow I7 5 (va_cpy (I7 18) (I7 5) (0 : Int32).toNatClampNeg (0 : Int32).toNatClampNeg (16 : Int32).toNatClampNeg)) (fun I9 => nm (updRow I9 6 (va_cpy (I9 19) (I9 6) (0 : Int32).toNatClampNeg (0 : Int32).toNatClampNeg (16 : Int32).toNatClampNeg)) (fun I11 => nm (updRow I11 7 (va_cpy (I11 20) (I11 7) (0 : Int32).toNatClampNeg (0 : Int32).toNatClampNeg (16 : Int32).toNatClampNeg)) (fun I13 => nm (updRow I13 8 (va_cpy (I13 21) (I13 8) (0 : Int32).toNatClampNeg (0 : Int32).toNatClampNeg (9 : Int32).toNatClampNeg)) (fun I15 => nm (updRow I15 9 (va_cpy (I15 22) (I15 9) (0 : Int32).toNatClampNeg (0 : Int32).toNatClampNeg (9 : Int32).toNatClampNeg)) (fun I17 => nm (updRow I17 10 (va_cpy (I17 23) (I17 10) (0 : Int32).toNatClampNeg (0 : Int32).toNatClampNeg (9 : Int32).toNatClampNeg)) (fun I19 => nm (updRow I19 11 (va_cpy (I19 24) (I19 11) (0 : Int32).toNatClampNeg (0 : Int32).toNatClampNeg (9 : Int32).toNatClampNeg)) (fun I21 => nm (updRow I21 12 (va_cpy (I21 25) (I21 12) (0 : Int32).toNatClampNeg (0 : Int32).toNatClampNeg (9 : Int32).toNatClampNeg)) (fun I23 => nm (updRow I23 13 (va_cpy (I23 26) (I23 13) (0 : Int32).toNatClampNeg (0 : Int32).toNatClampNeg (9 : Int32).toNatClampNeg)) (fun I25 => nm (updRow I25 14 (va_cpy (I25 27) (I25 14) (0 : Int32).toNatClampNeg (0 : Int32).toNatClampNeg (9 : Int32).toNatClampNeg)) (fun I27 => some I27))))))))))))))
set_option maxHeartbeats 4000000 in
set_option maxRecDepth 100000 in
theorem ct_X4_copyFrom (d : Nat) (hd : 1 ≤ d) {S : gS} {J : gJ} (hS : Sh S)  {I : gI} {r : gI} (h : mX4_copyFrom I = some r) : Ct yX4_copyFrom (wsY yX4_copyFrom cX4_copyFrom 2 none) d 0 0 [.ref 2, .ref 15] S I J (qE (.inl none) S r J) := by
  refine Ct.of hF (fun _ _ _ _ _ => trivial) (by decide +kernel) (Nat.le_of_ble_eq_true rfl) ⟨Or.inl (sn2 hS), Or.inl (sn15 hS), trivial⟩ ?_
  show Wp RX4 cX4_copyFrom 2 none [] hF d 0 0 0 [(0, .ref 2), (1, .ref 15)] [] S I J _
  unfold mX4_copyFrom at h
  refine wp_aload_n dX4_copyFrom_0 rfl rfl ?_
  refine wp_aload_n dX4_copyFrom_1 rfl rfl ?_
  refine wp_getI dX4_copyFrom_2 flX4_9 rfl (sk15 hS) (sn15 hS) ?_
  refine wp_putI dX4_copyFrom_5 (Or.inl fpX4_9) rfl ⟨rfl, rfl⟩ (sk2 hS) (sn2 hS) ?_
  refine wp_aload_n dX4_copyFrom_8 rfl rfl ?_
  refine wp_aload_n dX4_copyFrom_9 rfl rfl ?_
  refine wp_getI dX4_copyFrom_10 flX4_52 rfl (sk15 hS) (sn15 hS) ?_
  refine wp_putI dX4_copyFrom_13 (Or.inl fpX4_52) rfl ⟨rfl, rfl⟩ (sk2 hS) (sn2 hS) ?_
  refine wp_aload_n dX4_copyFrom_16 rfl rfl ?_
  refine wp_aload_n dX4_copyFrom_17 rfl rfl ?_
  refine wp_getI dX4_copyFrom_18 flX4_55 rfl (sk15 hS) (sn15 hS) ?_
  obtain ⟨x1, hx2, h⟩ := nm_inv h
  refine wp_topi hx2 ?_
  refine wp_putI dX4_copyFrom_21 (Or.inl fpX4_55) rfl ⟨rfl, rfl⟩ (sk2 hS) (sn2 hS) ?_
  obtain ⟨I3, hx4, h⟩ := nm_inv h
  refine wp_nmI hx4 ?_
  refine wp_aload_n dX4_copyFrom_24 rfl rfl ?_
  refine wp_getR dX4_copyFrom_25 flX4_15 rfl (sk15 hS) (sn15 hS) (sr15_3 hS) ?_
  refine wp_iconst (v := 0) dX4_copyFrom_28 (by decide) ?_
  refine wp_aload_n dX4_copyFrom_29 rfl rfl ?_
  refine wp_getR dX4_copyFrom_30 flX4_15 rfl (sk2 hS) (sn2 hS) (sr2_3 hS) ?_
  refine wp_iconst (v := 0) dX4_copyFrom_33 (by decide) ?_
  refine wp_bipush (v := 16) dX4_copyFrom_34 (by decide) ?_
  refine wp_acopy dX4_copyFrom_36 mlX4_58 (sk16 hS) (sn16 hS) (sk3 hS) (sn3 hS) sy_1 sy_2 sy_3 (Nat.le_trans (by decide) hd) (by decide) (by decide) (by decide) (by decide) (by decide) (by decide) ?_
  obtain ⟨I5, hx6, h⟩ := nm_inv h
  refine wp_nmI hx6 ?_
  refine wp_aload_n dX4_copyFrom_39 rfl rfl ?_
  refine wp_getR dX4_copyFrom_40 flX4_19 rfl (sk15 hS) (sn15 hS) (sr15_4 hS) ?_
  refine wp_iconst (v := 0) dX4_copyFrom_43 (by decide) ?_
  refine wp_aload_n dX4_copyFrom_44 rfl rfl ?_
  refine wp_getR dX4_copyFrom_45 flX4_19 rfl (sk2 hS) (sn2 hS) (sr2_4 hS) ?_
  refine wp_iconst (v := 0) dX4_copyFrom_48 (by decide) ?_
  refine wp_bipush (v := 16) dX4_copyFrom_49 (by decide) ?_
  refine wp_acopy dX4_copyFrom_51 mlX4_58 (sk17 hS) (sn17 hS) (sk4 hS) (sn4 hS) sy_1 sy_2 sy_3 (Nat.le_trans (by decide) hd) (by decide) (by decide) (by decide) (by decide) (by decide) (by decide) ?_
  obtain ⟨I7, hx8, h⟩ := nm_inv h
  refine wp_nmI hx8 ?_
  refine wp_aload_n dX4_copyFrom_54 rfl rfl ?_
  refine wp_getR dX4_copyFrom_55 flX4_22 rfl (sk15 hS) (sn15 hS) (sr15_5 hS) ?_
  refine wp_iconst (v := 0) dX4_copyFrom_58 (by decide) ?_
  refine wp_aload_n dX4_copyFrom_59 rfl rfl ?_
  refine wp_getR dX4_copyFrom_60 flX4_22 rfl (sk2 hS) (sn2 hS) (sr2_5 hS) ?_
  refine wp_iconst (v := 0) dX4_copyFrom_63 (by decide) ?_
  refine wp_bipush (v := 16) dX4_copyFrom_64 (by decide) ?_
  refine wp_acopy dX4_copyFrom_66 mlX4_58 (sk18 hS) (sn18 hS) (sk5 hS) (sn5 hS) sy_1 sy_2 sy_3 (Nat.le_trans (by decide) hd) (by decide) (by decide) (by decide) (by decide) (by decide) (by decide) ?_
  obtain ⟨I9, hx10, h⟩ := nm_inv h
  refine wp_nmI hx10 ?_
  refine wp_aload_n dX4_copyFrom_69 rfl rfl ?_
  refine wp_getR dX4_copyFrom_70 flX4_25 rfl (sk15 hS) (sn15 hS) (sr15_6 hS) ?_
  refine wp_iconst (v := 0) dX4_copyFrom_73 (by decide) ?_
  refine wp_aload_n dX4_copyFrom_74 rfl rfl ?_
  refine wp_getR dX4_copyFrom_75 flX4_25 rfl (sk2 hS) (sn2 hS) (sr2_6 hS) ?_
  refine wp_iconst (v := 0) dX4_copyFrom_78 (by decide) ?_
  refine wp_bipush (v := 16) dX4_copyFrom_79 (by decide) ?_
  refine wp_acopy dX4_copyFrom_81 mlX4_58 (sk19 hS) (sn19 hS) (sk6 hS) (sn6 hS) sy_1 sy_2 sy_3 (Nat.le_trans (by decide) hd) (by decide) (by decide) (by decide) (by decide) (by decide) (by decide) ?_
  obtain ⟨I11, hx12, h⟩ := nm_inv h
  refine wp_nmI hx12 ?_
  refine wp_aload_n dX4_copyFrom_84 rfl rfl ?_
  refine wp_getR dX4_copyFrom_85 flX4_28 rfl (sk15 hS) (sn15 hS) (sr15_7 hS) ?_
  refine wp_iconst (v := 0) dX4_copyFrom_88 (by decide) ?_
  refine wp_aload_n dX4_copyFrom_89 rfl rfl ?_
  refine wp_getR dX4_copyFrom_90 flX4_28 rfl (sk2 hS) (sn2 hS) (sr2_7 hS) ?_
  refine wp_iconst (v := 0) dX4_copyFrom_93 (by decide) ?_
  refine wp_bipush (v := 16) dX4_copyFrom_94 (by decide) ?_
  refine wp_acopy dX4_copyFrom_96 mlX4_58 (sk20 hS) (sn20 hS) (sk7 hS) (sn7 hS) sy_1 sy_2 sy_3 (Nat.le_trans (by decide) hd) (by decide) (by decide) (by decide) (by decide) (by decide) (by decide) ?_
  obtain ⟨I13, hx14, h⟩ := nm_inv h
  refine wp_nmI hx14 ?_
  refine wp_aload_n dX4_copyFrom_99 rfl rfl ?_
  refine wp_getR dX4_copyFrom_100 flX4_31 rfl (sk15 hS) (sn15 hS) (sr15_8 hS) ?_
  refine wp_iconst (v := 0) dX4_copyFrom_103 (by decide) ?_
  refine wp_aload_n dX4_copyFrom_104 rfl rfl ?_
  refine wp_getR dX4_copyFrom_105 flX4_31 rfl (sk2 hS) (sn2 hS) (sr2_8 hS) ?_
  refine wp_iconst (v := 0) dX4_copyFrom_108 (by decide) ?_
  refine wp_bipush (v := 9) dX4_copyFrom_109 (by decide) ?_
  refine wp_acopy dX4_copyFrom_111 mlX4_58 (sk21 hS) (sn21 hS) (sk8 hS) (sn8 hS) sy_1 sy_2 sy_3 (Nat.le_trans (by decide) hd) (by decide) (by decide) (by decide) (by decide) (by decide) (by decide) ?_
  obtain ⟨I15, hx16, h⟩ := nm_inv h
  refine wp_nmI hx16 ?_
  refine wp_aload_n dX4_copyFrom_114 rfl rfl ?_
  refine wp_getR dX4_copyFrom_115 flX4_34 rfl (sk15 hS) (sn15 hS) (sr15_9 hS) ?_
  refine wp_iconst (v := 0) dX4_copyFrom_118 (by decide) ?_
  refine wp_aload_n dX4_copyFrom_119 rfl rfl ?_
  refine wp_getR dX4_copyFrom_120 flX4_34 rfl (sk2 hS) (sn2 hS) (sr2_9 hS) ?_
  refine wp_iconst (v := 0) dX4_copyFrom_123 (by decide) ?_
  refine wp_bipush (v := 9) dX4_copyFrom_124 (by decide) ?_
  refine wp_acopy dX4_copyFrom_126 mlX4_58 (sk22 hS) (sn22 hS) (sk9 hS) (sn9 hS) sy_1 sy_2 sy_3 (Nat.le_trans (by decide) hd) (by decide) (by decide) (by decide) (by decide) (by decide) (by decide) ?_
  obtain ⟨I17, hx18, h⟩ := nm_inv h
  refine wp_nmI hx18 ?_
  refine wp_aload_n dX4_copyFrom_129 rfl rfl ?_
  refine wp_getR dX4_copyFrom_130 flX4_37 rfl (sk15 hS) (sn15 hS) (sr15_10 hS) ?_
  refine wp_iconst (v := 0) dX4_copyFrom_133 (by decide) ?_
  refine wp_aload_n dX4_copyFrom_134 rfl rfl ?_
  refine wp_getR dX4_copyFrom_135 flX4_37 rfl (sk2 hS) (sn2 hS) (sr2_10 hS) ?_
  refine wp_iconst (v := 0) dX4_copyFrom_138 (by decide) ?_
  refine wp_bipush (v := 9) dX4_copyFrom_139 (by decide) ?_
  refine wp_acopy dX4_copyFrom_141 mlX4_58 (sk23 hS) (sn23 hS) (sk10 hS) (sn10 hS) sy_1 sy_2 sy_3 (Nat.le_trans (by decide) hd) (by decide) (by decide) (by decide) (by decide) (by decide) (by decide) ?_
  obtain ⟨I19, hx20, h⟩ := nm_inv h
  refine wp_nmI hx20 ?_
  refine wp_aload_n dX4_copyFrom_144 rfl rfl ?_
  refine wp_getR dX4_copyFrom_145 flX4_40 rfl (sk15 hS) (sn15 hS) (sr15_11 hS) ?_
  refine wp_iconst (v := 0) dX4_copyFrom_148 (by decide) ?_
  refine wp_aload_n dX4_copyFrom_149 rfl rfl ?_
  refine wp_getR dX4_copyFrom_150 flX4_40 rfl (sk2 hS) (sn2 hS) (sr2_11 hS) ?_
  refine wp_iconst (v := 0) dX4_copyFrom_153 (by decide) ?_
  refine wp_bipush (v := 9) dX4_copyFrom_154 (by decide) ?_
  refine wp_acopy dX4_copyFrom_156 mlX4_58 (sk24 hS) (sn24 hS) (sk11 hS) (sn11 hS) sy_1 sy_2 sy_3 (Nat.le_trans (by decide) hd) (by decide) (by decide) (by decide) (by decide) (by decide) (by decide) ?_
  obtain ⟨I21, hx22, h⟩ := nm_inv h
  refine wp_nmI hx22 ?_
  refine wp_aload_n dX4_copyFrom_159 rfl rfl ?_
  refine wp_getR dX4_copyFrom_160 flX4_43 rfl (sk15 hS) (sn15 hS) (sr15_12 hS) ?_
  refine wp_iconst (v := 0) dX4_copyFrom_163 (by decide) ?_
  refine wp_aload_n dX4_copyFrom_164 rfl rfl ?_
  refine wp_getR dX4_copyFrom_165 flX4_43 rfl (sk2 hS) (sn2 hS) (sr2_12 hS) ?_
  refine wp_iconst (v := 0) dX4_copyFrom_168 (by decide) ?_
  refine wp_bipush (v := 9) dX4_copyFrom_169 (by decide) ?_
  refine wp_acopy dX4_copyFrom_171 mlX4_58 (sk25 hS) (sn25 hS) (sk12 hS) (sn12 hS) sy_1 sy_2 sy_3 (Nat.le_trans (by decide) hd) (by decide) (by decide) (by decide) (by decide) (by decide) (by decide) ?_
  obtain ⟨I23, hx24, h⟩ := nm_inv h
  refine wp_nmI hx24 ?_
  refine wp_aload_n dX4_copyFrom_174 rfl rfl ?_
  refine wp_getR dX4_copyFrom_175 flX4_46 rfl (sk15 hS) (sn15 hS) (sr15_13 hS) ?_
  refine wp_iconst (v := 0) dX4_copyFrom_178 (by decide) ?_
  refine wp_aload_n dX4_copyFrom_179 rfl rfl ?_
  refine wp_getR dX4_copyFrom_180 flX4_46 rfl (sk2 hS) (sn2 hS) (sr2_13 hS) ?_
  refine wp_iconst (v := 0) dX4_copyFrom_183 (by decide) ?_
  refine wp_bipush (v := 9) dX4_copyFrom_184 (by decide) ?_
  refine wp_acopy dX4_copyFrom_186 mlX4_58 (sk26 hS) (sn26 hS) (sk13 hS) (sn13 hS) sy_1 sy_2 sy_3 (Nat.le_trans (by decide) hd) (by decide) (by decide) (by decide) (by decide) (by decide) (by decide) ?_
  obtain ⟨I25, hx26, h⟩ := nm_inv h
  refine wp_nmI hx26 ?_
  refine wp_aload_n dX4_copyFrom_189 rfl rfl ?_
  refine wp_getR dX4_copyFrom_190 flX4_49 rfl (sk15 hS) (sn15 hS) (sr15_14 hS) ?_
  refine wp_iconst (v := 0) dX4_copyFrom_193 (by decide) ?_
  refine wp_aload_n dX4_copyFrom_194 rfl rfl ?_
  refine wp_getR dX4_copyFrom_195 flX4_49 rfl (sk2 hS) (sn2 hS) (sr2_14 hS) ?_
  refine wp_iconst (v := 0) dX4_copyFrom_198 (by decide) ?_
  refine wp_bipush (v := 9) dX4_copyFrom_199 (by decide) ?_
  refine wp_acopy dX4_copyFrom_201 mlX4_58 (sk27 hS) (sn27 hS) (sk14 hS) (sn14 hS) sy_1 sy_2 sy_3 (Nat.le_trans (by decide) hd) (by decide) (by decide) (by decide) (by decide) (by decide) (by decide) ?_
  obtain ⟨I27, hx28, h⟩ := nm_inv h
  refine wp_nmI hx28 ?_
  exact wp_vret dX4_copyFrom_204 rfl (by obtain rfl := sji h; exact ⟨rfl, rfl, rfl, rfl⟩)
def mX2_standing_4 (u1 : Nat) (I : gI) : Nat → Int32 → Int32 → Option (Int32)
  | 0, _, _ => none
  | n + 1, v1, v2 => if (I 2 2) ≤ v2 then (some v1) else (ck v2 9 (if (I (u1 + 1) v2.toNatClampNeg) = 0 then (mX2_standing_4 u1 I n v1 (v2 + 1)) else (mX2_standing_4 u1 I n (v1 ||| ((1 : Int32) <<< (v2 &&& 31))) (v2 + 1))))
def mX2_standing (N : Nat) (u1 : Nat) (I : gI) : Option (Int32) := Option.bind (mX2_standing_4 u1 I N 0 0) (fun y4 => some y4)
set_option maxHeartbeats 4000000 in
set_option maxRecDepth 100000 in
theorem wX2_standing_4 (d : Nat) (hd : 0 ≤ d) {S : gS} {J : gJ} (hS : Sh S) (t1 : Nat) (u1 : Nat) (hL1 : IsLe S t1 u1) (I : gI) {Q : gO → gS → gI → gJ → Prop} :
    ∀ (n : Nat) (v1 : Int32) (v2 : Int32) (res : Int32), mX2_standing_4 u1 I n v1 v2 = some res → (∀ (o1 : Int32), res = o1 → Wp RX2 cX2_standing 3 (some .int) [] hF d 0 0 39 [(1, .int o1)] [] S I J Q) → Wp RX2 cX2_standing 3 (some .int) [] hF d 0 0 4 [(0, .ref t1), (1, .int v1), (2, .int v2)] [] S I J Q := by
  intro n
  induction n with
  | zero => intro v1 v2 res h; exact nso h
  | succ n ih =>
    intro v1 v2 res h kx
    rw [mX2_standing_4] at h
    refine wp_iload_n dX2_standing_4 rfl rfl ?_
    refine wp_aload_n dX2_standing_5 rfl rfl ?_
    refine wp_getR dX2_standing_6 flX2_9 rfl hL1.1.1 hL1.1.2.1 hL1.1.2.2.1 ?_
    refine wp_getI dX2_standing_9 flX2_23 rfl (sk2 hS) (sn2 hS) ?_
    refine wp_icmp_ge (tgt := 39) dX2_standing_12 (by decide) (fun hc1 => ?_) (fun hc1 => ?_)
    · have h := ite_t hc1 h
      exact wp_pick (ks := [1]) rfl (kx _ (sji h).symm)
    · have h := ite_f hc1 h
      refine wp_aload_n dX2_standing_15 rfl rfl ?_
      refine wp_getR dX2_standing_16 flX2_19 rfl hL1.1.1 hL1.1.2.1 hL1.1.2.2.2.2 ?_
      refine wp_getR dX2_standing_19 flX2_29 rfl hL1.2.1 hL1.2.n0 hL1.2.2.2.2.2.1 ?_
      refine wp_iload_n dX2_standing_22 rfl rfl ?_
      obtain ⟨hb2, h⟩ := ck_inv h
      refine wp_iald dX2_standing_23 hL1.2.2.2.1 hL1.2.n1 hb2 ?_
      refine wp_if_eq (tgt := 33) dX2_standing_24 (by decide) (fun hc3 => ?_) (fun hc3 => ?_)
      · have h := ite_t hc3 h
        refine wp_iinc (v := 1) (ls' := [(2, .int (v2 + 1)), (0, .ref t1), (1, .int v1)]) dX2_standing_33 rfl (by decide) (Nat.le_of_ble_eq_true rfl) rfl ?_
        refine wp_goto (tgt := 4) dX2_standing_36 (by decide) ?_
        exact wp_pick (ks := [1, 2, 0]) rfl (ih _ _ _ h kx)
      · have h := ite_f hc3 h
        refine wp_iload_n dX2_standing_27 rfl rfl ?_
        refine wp_iconst (v := 1) dX2_standing_28 (by decide) ?_
        refine wp_iload_n dX2_standing_29 rfl rfl ?_
        refine wp_ishl dX2_standing_30 ?_
        refine wp_ior dX2_standing_31 ?_
        refine wp_istore_n (ls' := [(1, .int (v1 ||| ((1 : Int32) <<< (v2 &&& 31)))), (0, .ref t1), (2, .int v2)]) dX2_standing_32 rfl (Nat.le_of_ble_eq_true rfl) rfl ?_
        refine wp_iinc (v := 1) (ls' := [(2, .int (v2 + 1)), (1, .int (v1 ||| ((1 : Int32) <<< (v2 &&& 31)))), (0, .ref t1)]) dX2_standing_33 rfl (by decide) (Nat.le_of_ble_eq_true rfl) rfl ?_
        refine wp_goto (tgt := 4) dX2_standing_36 (by decide) ?_
        exact wp_pick (ks := [2, 1, 0]) rfl (ih _ _ _ h kx)
set_option maxHeartbeats 4000000 in
set_option maxRecDepth 100000 in
theorem ct_X2_standing (N : Nat) (d : Nat) (hd : 0 ≤ d) {S : gS} {J : gJ} (hS : Sh S) {t1 : Nat} {u1 : Nat} (hL1 : IsLe S t1 u1) {I : gI} {r : Int32} (h : mX2_standing N u1 I = some r) : Ct yX2_standing (wsY yX2_standing cX2_standing 3 (some .int)) d 0 0 [.ref t1] S I J (qE (.inl (some (.int r))) S I J) := by
  refine Ct.of hF (fun _ _ _ _ _ => trivial) (by decide +kernel) (Nat.le_of_ble_eq_true rfl) ⟨Or.inl hL1.1.2.1, trivial⟩ ?_
  show Wp RX2 cX2_standing 3 (some .int) [] hF d 0 0 0 [(0, .ref t1)] [] S I J _
  unfold mX2_standing at h
  refine wp_iconst (v := 0) dX2_standing_0 (by decide) ?_
  refine wp_istore_n (ls' := [(1, .int 0), (0, .ref t1)]) dX2_standing_1 rfl (Nat.le_of_ble_eq_true rfl) rfl ?_
  refine wp_iconst (v := 0) dX2_standing_2 (by decide) ?_
  refine wp_istore_n (ls' := [(2, .int 0), (1, .int 0), (0, .ref t1)]) dX2_standing_3 rfl (Nat.le_of_ble_eq_true rfl) rfl ?_
  obtain ⟨y4, hL95, h⟩ := obi h
  refine wp_pick (ks := [2, 1, 0]) rfl (wX2_standing_4 d hd hS t1 u1 hL1 I N 0 0 _ hL95 (fun _ e6 => ?_))
  cases e6
  refine wp_iload_n dX2_standing_39 rfl rfl ?_
  exact wp_iret dX2_standing_40 rfl (by obtain rfl := sji h; exact ⟨rfl, rfl, rfl, rfl⟩)
def mX2_tunnelsOn_4 (u1 : Nat) (k1 : Int32) (I : gI) : Nat → Int32 → Int32 → Option (Int32)
  | 0, _, _ => none
  | n + 1, v2, v3 => if (I 2 2) ≤ v3 then (some v2) else (ck v3 9 (nm (((ushr (I (u1 + 1) v3.toNatClampNeg) k1) &&& 1) <<< (v3 &&& 31)) (fun x3 => mX2_tunnelsOn_4 u1 k1 I n (v2 ||| x3) (v3 + 1))))
def mX2_tunnelsOn (N : Nat) (u1 : Nat) (a2 : Int32) (I : gI) : Option (Int32) := Option.bind (mX2_tunnelsOn_4 u1 a2 I N 0 0) (fun y5 => some y5)
set_option maxHeartbeats 4000000 in
set_option maxRecDepth 100000 in
theorem wX2_tunnelsOn_4 (d : Nat) (hd : 0 ≤ d) {S : gS} {J : gJ} (hS : Sh S) (t1 : Nat) (u1 : Nat) (hL1 : IsLe S t1 u1) (k1 : Int32) (I : gI) {Q : gO → gS → gI → gJ → Prop} :
    ∀ (n : Nat) (v2 : Int32) (v3 : Int32) (res : Int32), mX2_tunnelsOn_4 u1 k1 I n v2 v3 = some res → (∀ (o2 : Int32), res = o2 → Wp RX2 cX2_tunnelsOn 4 (some .int) [] hF d 0 0 39 [(2, .int o2)] [] S I J Q) → Wp RX2 cX2_tunnelsOn 4 (some .int) [] hF d 0 0 4 [(0, .ref t1), (1, .int k1), (2, .int v2), (3, .int v3)] [] S I J Q := by
  intro n
  induction n with
  | zero => intro v2 v3 res h; exact nso h
  | succ n ih =>
    intro v2 v3 res h kx
    rw [mX2_tunnelsOn_4] at h
    refine wp_iload_n dX2_tunnelsOn_4 rfl rfl ?_
    refine wp_aload_n dX2_tunnelsOn_5 rfl rfl ?_
    refine wp_getR dX2_tunnelsOn_6 flX2_9 rfl hL1.1.1 hL1.1.2.1 hL1.1.2.2.1 ?_
    refine wp_getI dX2_tunnelsOn_9 flX2_23 rfl (sk2 hS) (sn2 hS) ?_
    refine wp_icmp_ge (tgt := 39) dX2_tunnelsOn_12 (by decide) (fun hc1 => ?_) (fun hc1 => ?_)
    · have h := ite_t hc1 h
      exact wp_pick (ks := [2]) rfl (kx _ (sji h).symm)
    · have h := ite_f hc1 h
      refine wp_iload_n dX2_tunnelsOn_15 rfl rfl ?_
      refine wp_aload_n dX2_tunnelsOn_16 rfl rfl ?_
      refine wp_getR dX2_tunnelsOn_17 flX2_19 rfl hL1.1.1 hL1.1.2.1 hL1.1.2.2.2.2 ?_
      refine wp_getR dX2_tunnelsOn_20 flX2_29 rfl hL1.2.1 hL1.2.n0 hL1.2.2.2.2.2.1 ?_
      refine wp_iload_n dX2_tunnelsOn_23 rfl rfl ?_
      obtain ⟨hb2, h⟩ := ck_inv h
      refine wp_iald dX2_tunnelsOn_24 hL1.2.2.2.1 hL1.2.n1 hb2 ?_
      refine wp_iload_n dX2_tunnelsOn_25 rfl rfl ?_
      refine wp_iushr dX2_tunnelsOn_26 ?_
      refine wp_iconst (v := 1) dX2_tunnelsOn_27 (by decide) ?_
      refine wp_iand dX2_tunnelsOn_28 ?_
      refine wp_iload_n dX2_tunnelsOn_29 rfl rfl ?_
      refine wp_ishl dX2_tunnelsOn_30 ?_
      obtain ⟨x3, hx4, h⟩ := nm_inv h
      refine wp_topi hx4 ?_
      refine wp_ior dX2_tunnelsOn_31 ?_
      refine wp_istore_n (ls' := [(2, .int (v2 ||| x3)), (0, .ref t1), (1, .int k1), (3, .int v3)]) dX2_tunnelsOn_32 rfl (Nat.le_of_ble_eq_true rfl) rfl ?_
      refine wp_iinc (v := 1) (ls' := [(3, .int (v3 + 1)), (2, .int (v2 ||| x3)), (0, .ref t1), (1, .int k1)]) dX2_tunnelsOn_33 rfl (by decide) (Nat.le_of_ble_eq_true rfl) rfl ?_
      refine wp_goto (tgt := 4) dX2_tunnelsOn_36 (by decide) ?_
      exact wp_pick (ks := [2, 3, 1, 0]) rfl (ih _ _ _ h kx)
set_option maxHeartbeats 4000000 in
set_option maxRecDepth 100000 in
theorem ct_X2_tunnelsOn (N : Nat) (d : Nat) (hd : 0 ≤ d) {S : gS} {J : gJ} (hS : Sh S) {t1 : Nat} {u1 : Nat} (hL1 : IsLe S t1 u1) {a2 : Int32} {I : gI} {r : Int32} (h : mX2_tunnelsOn N u1 a2 I = some r) : Ct yX2_tunnelsOn (wsY yX2_tunnelsOn cX2_tunnelsOn 4 (some .int)) d 0 0 [.ref t1, .int a2] S I J (qE (.inl (some (.int r))) S I J) := by
  refine Ct.of hF (fun _ _ _ _ _ => trivial) (by decide +kernel) (Nat.le_of_ble_eq_true rfl) ⟨Or.inl hL1.1.2.1, trivial, trivial⟩ ?_
  show Wp RX2 cX2_tunnelsOn 4 (some .int) [] hF d 0 0 0 [(0, .ref t1), (1, .int a2)] [] S I J _
  unfold mX2_tunnelsOn at h
  refine wp_iconst (v := 0) dX2_tunnelsOn_0 (by decide) ?_
  refine wp_istore_n (ls' := [(2, .int 0), (0, .ref t1), (1, .int a2)]) dX2_tunnelsOn_1 rfl (Nat.le_of_ble_eq_true rfl) rfl ?_
  refine wp_iconst (v := 0) dX2_tunnelsOn_2 (by decide) ?_
  refine wp_istore_n (ls' := [(3, .int 0), (2, .int 0), (0, .ref t1), (1, .int a2)]) dX2_tunnelsOn_3 rfl (Nat.le_of_ble_eq_true rfl) rfl ?_
  obtain ⟨y5, hL96, h⟩ := obi h
  refine wp_pick (ks := [2, 3, 1, 0]) rfl (wX2_tunnelsOn_4 d hd hS t1 u1 hL1 a2 I N 0 0 _ hL96 (fun _ e7 => ?_))
  cases e7
  refine wp_iload_n dX2_tunnelsOn_39 rfl rfl ?_
  exact wp_iret dX2_tunnelsOn_40 rfl (by obtain rfl := sji h; exact ⟨rfl, rfl, rfl, rfl⟩)
def mX2_poolWithout_14 (u1 : Nat) (k1 : Int32) (k2 : Int32) (k3 : Int32) (I : gI) : Nat → Int32 → Int32 → Option (Int32)
  | 0, _, _ => none
  | n + 1, v4, v5 => if (I 2 2) ≤ v5 then (some v4) else (if v5 = k1 then (mX2_poolWithout_14 u1 k1 k2 k3 I n v4 (v5 + 1)) else (ck v5 9 (if k3 < (I 12 v5.toNatClampNeg) then (mX2_poolWithout_14 u1 k1 k2 k3 I n v4 (v5 + 1)) else (if ((ushr (I (u1 + 1) v5.toNatClampNeg) k2) &&& 1) = 0 then (mX2_poolWithout_14 u1 k1 k2 k3 I n v4 (v5 + 1)) else (mX2_poolWithout_14 u1 k1 k2 k3 I n (v4 - (I (u1 + 2) v5.toNatClampNeg)) (v5 + 1))))))
def mX2_poolWithout (N : Nat) (u1 : Nat) (a2 : Int32) (a3 : Int32) (a4 : Int32) (I : gI) : Option (Int32) := ck a3 16 (Option.bind (mX2_poolWithout_14 u1 a2 a3 a4 I N (I 6 a3.toNatClampNeg) 0) (fun y7 => some y7))
set_option maxHeartbeats 4000000 in
set_option maxRecDepth 100000 in
theorem wX2_poolWithout_14 (d : Nat) (hd : 0 ≤ d) {S : gS} {J : gJ} (hS : Sh S) (t1 : Nat) (u1 : Nat) (hL1 : IsLe S t1 u1) (k1 : Int32) (k2 : Int32) (k3 : Int32) (I : gI) {Q : gO → gS → gI → gJ → Prop} :
    ∀ (n : Nat) (v4 : Int32) (v5 : Int32) (res : Int32), mX2_poolWithout_14 u1 k1 k2 k3 I n v4 v5 = some res → (∀ (o4 : Int32), res = o4 → Wp RX2 cX2_poolWithout 6 (some .int) [] hF d 0 0 84 [(4, .int o4)] [] S I J Q) → Wp RX2 cX2_poolWithout 6 (some .int) [] hF d 0 0 14 [(0, .ref t1), (1, .int k1), (2, .int k2), (3, .int k3), (4, .int v4), (5, .int v5)] [] S I J Q := by
  intro n
  induction n with
  | zero => intro v4 v5 res h; exact nso h
  | succ n ih =>
    intro v4 v5 res h kx
    rw [mX2_poolWithout_14] at h
    refine wp_iload dX2_poolWithout_14 rfl ?_
    refine wp_aload_n dX2_poolWithout_16 rfl rfl ?_
    refine wp_getR dX2_poolWithout_17 flX2_9 rfl hL1.1.1 hL1.1.2.1 hL1.1.2.2.1 ?_
    refine wp_getI dX2_poolWithout_20 flX2_23 rfl (sk2 hS) (sn2 hS) ?_
    refine wp_icmp_ge (tgt := 84) dX2_poolWithout_23 (by decide) (fun hc2 => ?_) (fun hc2 => ?_)
    · have h := ite_t hc2 h
      exact wp_pick (ks := [4]) rfl (kx _ (sji h).symm)
    · have h := ite_f hc2 h
      refine wp_iload dX2_poolWithout_26 rfl ?_
      refine wp_iload_n dX2_poolWithout_28 rfl rfl ?_
      refine wp_icmp_eq (tgt := 78) dX2_poolWithout_29 (by decide) (fun hc3 => ?_) (fun hc3 => ?_)
      · have h := ite_t hc3 h
        refine wp_iinc (v := 1) (ls' := [(5, .int (v5 + 1)), (0, .ref t1), (1, .int k1), (2, .int k2), (3, .int k3), (4, .int v4)]) dX2_poolWithout_78 rfl (by decide) (Nat.le_of_ble_eq_true rfl) rfl ?_
        refine wp_goto (tgt := 14) dX2_poolWithout_81 (by decide) ?_
        exact wp_pick (ks := [1, 2, 3, 4, 5, 0]) rfl (ih _ _ _ h kx)
      · have h := ite_f hc3 h
        refine wp_aload_n dX2_poolWithout_32 rfl rfl ?_
        refine wp_getR dX2_poolWithout_33 flX2_9 rfl hL1.1.1 hL1.1.2.1 hL1.1.2.2.1 ?_
        refine wp_getR dX2_poolWithout_36 flX2_42 rfl (sk2 hS) (sn2 hS) (sr2_12 hS) ?_
        refine wp_iload dX2_poolWithout_39 rfl ?_
        obtain ⟨hb4, h⟩ := ck_inv h
        refine wp_iald dX2_poolWithout_41 (sk12 hS) (sn12 hS) hb4 ?_
        refine wp_iload_n dX2_poolWithout_42 rfl rfl ?_
        refine wp_icmp_gt (tgt := 78) dX2_poolWithout_43 (by decide) (fun hc5 => ?_) (fun hc5 => ?_)
        · have h := ite_t hc5 h
          refine wp_iinc (v := 1) (ls' := [(5, .int (v5 + 1)), (0, .ref t1), (1, .int k1), (2, .int k2), (3, .int k3), (4, .int v4)]) dX2_poolWithout_78 rfl (by decide) (Nat.le_of_ble_eq_true rfl) rfl ?_
          refine wp_goto (tgt := 14) dX2_poolWithout_81 (by decide) ?_
          exact wp_pick (ks := [1, 2, 3, 4, 5, 0]) rfl (ih _ _ _ h kx)
        · have h := ite_f hc5 h
          refine wp_aload_n dX2_poolWithout_46 rfl rfl ?_
          refine wp_getR dX2_poolWithout_47 flX2_19 rfl hL1.1.1 hL1.1.2.1 hL1.1.2.2.2.2 ?_
          refine wp_getR dX2_poolWithout_50 flX2_29 rfl hL1.2.1 hL1.2.n0 hL1.2.2.2.2.2.1 ?_
          refine wp_iload dX2_poolWithout_53 rfl ?_
          refine wp_iald dX2_poolWithout_55 hL1.2.2.2.1 hL1.2.n1 hb4 ?_
          refine wp_iload_n dX2_poolWithout_56 rfl rfl ?_
          refine wp_iushr dX2_poolWithout_57 ?_
          refine wp_iconst (v := 1) dX2_poolWithout_58 (by decide) ?_
          refine wp_iand dX2_poolWithout_59 ?_
          refine wp_if_eq (tgt := 78) dX2_poolWithout_60 (by decide) (fun hc6 => ?_) (fun hc6 => ?_)
          · have h := ite_t hc6 h
            refine wp_iinc (v := 1) (ls' := [(5, .int (v5 + 1)), (0, .ref t1), (1, .int k1), (2, .int k2), (3, .int k3), (4, .int v4)]) dX2_poolWithout_78 rfl (by decide) (Nat.le_of_ble_eq_true rfl) rfl ?_
            refine wp_goto (tgt := 14) dX2_poolWithout_81 (by decide) ?_
            exact wp_pick (ks := [1, 2, 3, 4, 5, 0]) rfl (ih _ _ _ h kx)
          · have h := ite_f hc6 h
            refine wp_iload dX2_poolWithout_63 rfl ?_
            refine wp_aload_n dX2_poolWithout_65 rfl rfl ?_
            refine wp_getR dX2_poolWithout_66 flX2_19 rfl hL1.1.1 hL1.1.2.1 hL1.1.2.2.2.2 ?_
            refine wp_getR dX2_poolWithout_69 flX2_45 rfl hL1.2.1 hL1.2.n0 hL1.2.2.2.2.2.2 ?_
            refine wp_iload dX2_poolWithout_72 rfl ?_
            refine wp_iald dX2_poolWithout_74 hL1.2.2.2.2.1 hL1.2.n2 hb4 ?_
            refine wp_isub dX2_poolWithout_75 ?_
            refine wp_istore (ls' := [(4, .int (v4 - (I (u1 + 2) v5.toNatClampNeg))), (0, .ref t1), (1, .int k1), (2, .int k2), (3, .int k3), (5, .int v5)]) dX2_poolWithout_76 (Nat.le_of_ble_eq_true rfl) rfl ?_
            refine wp_iinc (v := 1) (ls' := [(5, .int (v5 + 1)), (4, .int (v4 - (I (u1 + 2) v5.toNatClampNeg))), (0, .ref t1), (1, .int k1), (2, .int k2), (3, .int k3)]) dX2_poolWithout_78 rfl (by decide) (Nat.le_of_ble_eq_true rfl) rfl ?_
            refine wp_goto (tgt := 14) dX2_poolWithout_81 (by decide) ?_
            exact wp_pick (ks := [2, 3, 4, 5, 1, 0]) rfl (ih _ _ _ h kx)
set_option maxHeartbeats 4000000 in
set_option maxRecDepth 100000 in
theorem ct_X2_poolWithout (N : Nat) (d : Nat) (hd : 0 ≤ d) {S : gS} {J : gJ} (hS : Sh S) {t1 : Nat} {u1 : Nat} (hL1 : IsLe S t1 u1) {a2 : Int32} {a3 : Int32} {a4 : Int32} {I : gI} {r : Int32} (h : mX2_poolWithout N u1 a2 a3 a4 I = some r) : Ct yX2_poolWithout (wsY yX2_poolWithout cX2_poolWithout 6 (some .int)) d 0 0 [.ref t1, .int a2, .int a3, .int a4] S I J (qE (.inl (some (.int r))) S I J) := by
  refine Ct.of hF (fun _ _ _ _ _ => trivial) (by decide +kernel) (Nat.le_of_ble_eq_true rfl) ⟨Or.inl hL1.1.2.1, trivial, trivial, trivial, trivial⟩ ?_
  show Wp RX2 cX2_poolWithout 6 (some .int) [] hF d 0 0 0 [(0, .ref t1), (1, .int a2), (2, .int a3), (3, .int a4)] [] S I J _
  unfold mX2_poolWithout at h
  refine wp_aload_n dX2_poolWithout_0 rfl rfl ?_
  refine wp_getR dX2_poolWithout_1 flX2_9 rfl hL1.1.1 hL1.1.2.1 hL1.1.2.2.1 ?_
  refine wp_getR dX2_poolWithout_4 flX2_35 rfl (sk2 hS) (sn2 hS) (sr2_6 hS) ?_
  refine wp_iload_n dX2_poolWithout_7 rfl rfl ?_
  obtain ⟨hb1, h⟩ := ck_inv h
  refine wp_iald dX2_poolWithout_8 (sk6 hS) (sn6 hS) hb1 ?_
  refine wp_istore (ls' := [(4, .int (I 6 a3.toNatClampNeg)), (0, .ref t1), (1, .int a2), (2, .int a3), (3, .int a4)]) dX2_poolWithout_9 (Nat.le_of_ble_eq_true rfl) rfl ?_
  refine wp_iconst (v := 0) dX2_poolWithout_11 (by decide) ?_
  refine wp_istore (ls' := [(5, .int 0), (4, .int (I 6 a3.toNatClampNeg)), (0, .ref t1), (1, .int a2), (2, .int a3), (3, .int a4)]) dX2_poolWithout_12 (Nat.le_of_ble_eq_true rfl) rfl ?_
  obtain ⟨y7, hL98, h⟩ := obi h
  refine wp_pick (ks := [2, 3, 4, 5, 1, 0]) rfl (wX2_poolWithout_14 d hd hS t1 u1 hL1 a2 a3 a4 I N (I 6 a3.toNatClampNeg) 0 _ hL98 (fun _ e9 => ?_))
  cases e9
  refine wp_iload dX2_poolWithout_84 rfl ?_
  exact wp_iret dX2_poolWithout_86 rfl (by obtain rfl := sji h; exact ⟨rfl, rfl, rfl, rfl⟩)
def mX2_taken (N : Nat) (u1 : Nat) (a2 : Int32) (I : gI) : Option (Int32) := ck a2 16 (Option.bind (mX2_poolWithout N u1 (-1) a2 7 I) (fun r2 => some ((I 6 a2.toNatClampNeg) - r2)))
set_option maxHeartbeats 4000000 in
set_option maxRecDepth 100000 in
theorem ct_X2_taken (N : Nat) (d : Nat) (hd : 1 ≤ d) {S : gS} {J : gJ} (hS : Sh S) {t1 : Nat} {u1 : Nat} (hL1 : IsLe S t1 u1) {a2 : Int32} {I : gI} {r : Int32} (h : mX2_taken N u1 a2 I = some r) : Ct yX2_taken (wsY yX2_taken cX2_taken 2 (some .int)) d 0 0 [.ref t1, .int a2] S I J (qE (.inl (some (.int r))) S I J) := by
  refine Ct.of hF (fun _ _ _ _ _ => trivial) (by decide +kernel) (Nat.le_of_ble_eq_true rfl) ⟨Or.inl hL1.1.2.1, trivial, trivial⟩ ?_
  show Wp RX2 cX2_taken 2 (some .int) [] hF d 0 0 0 [(0, .ref t1), (1, .int a2)] [] S I J _
  unfold mX2_taken at h
  refine wp_aload_n dX2_taken_0 rfl rfl ?_
  refine wp_getR dX2_taken_1 flX2_9 rfl hL1.1.1 hL1.1.2.1 hL1.1.2.2.1 ?_
  refine wp_getR dX2_taken_4 flX2_35 rfl (sk2 hS) (sn2 hS) (sr2_6 hS) ?_
  refine wp_iload_n dX2_taken_7 rfl rfl ?_
  obtain ⟨hb1, h⟩ := ck_inv h
  refine wp_iald dX2_taken_8 (sk6 hS) (sn6 hS) hb1 ?_
  refine wp_aload_n dX2_taken_9 rfl rfl ?_
  refine wp_iconst (v := (-1)) dX2_taken_10 (by decide) ?_
  refine wp_iload_n dX2_taken_11 rfl rfl ?_
  refine wp_bipush (v := 7) dX2_taken_12 (by decide) ?_
  obtain ⟨r2, hF3, h⟩ := obi h
  refine wp_callVi (ci := 2) (As := [.int (-1), .int a2, .int 7]) dX2_taken_14 lbX2_poolWithout mlX2_38 imX2_poolWithout seX2_poolWithout vc2 (ct_X2_poolWithout N 0 (Nat.le_refl _) hS hL1 hF3) rfl rfl (Nat.le_trans (by decide) hd) hL1.1.1 hL1.1.2.1 (Nat.le_of_ble_eq_true rfl) (fun _ => ?_)
  refine wp_isub dX2_taken_17 ?_
  exact wp_iret dX2_taken_18 rfl (by obtain rfl := sji h; exact ⟨rfl, rfl, rfl, rfl⟩)
def mX2_showPools_2 (N : Nat) (u1 : Nat) (k1 : Int32) (k2 : Int32) : Nat → Int32 → gI → Option (gI)
  | 0, _, _ => none
  | n + 1, v3, I => if (I 2 1) ≤ v3 then (some I) else (Option.bind (mX2_poolWithout N u1 k1 v3 k2 I) (fun r2 => ck v3 16 (mX2_showPools_2 N u1 k1 k2 n (v3 + 1) (upd2 I 31 v3.toNatClampNeg r2))))
def mX2_showPools (N : Nat) (u1 : Nat) (a2 : Int32) (a3 : Int32) (I : gI) : Option (gI) := Option.bind (mX2_showPools_2 N u1 a2 a3 N 0 I) (fun I5 => some I5)
set_option maxHeartbeats 4000000 in
set_option maxRecDepth 100000 in
theorem wX2_showPools_2 (N : Nat) (d : Nat) (hd : 1 ≤ d) {S : gS} {J : gJ} (hS : Sh S) (t1 : Nat) (u1 : Nat) (hL1 : IsLe S t1 u1) (k1 : Int32) (k2 : Int32) {Q : gO → gS → gI → gJ → Prop} :
    ∀ (n : Nat) (v3 : Int32) (I : gI) (res : gI), mX2_showPools_2 N u1 k1 k2 n v3 I = some res → (∀ (O : gI), res = O → Wp RX2 cX2_showPools 4 none [] hF d 0 0 35 [] [] S O J Q) → Wp RX2 cX2_showPools 4 none [] hF d 0 0 2 [(0, .ref t1), (1, .int k1), (2, .int k2), (3, .int v3)] [] S I J Q := by
  intro n
  induction n with
  | zero => intro v3 I res h; exact nso h
  | succ n ih =>
    intro v3 I res h kx
    rw [mX2_showPools_2] at h
    refine wp_iload_n dX2_showPools_2 rfl rfl ?_
    refine wp_aload_n dX2_showPools_3 rfl rfl ?_
    refine wp_getR dX2_showPools_4 flX2_9 rfl hL1.1.1 hL1.1.2.1 hL1.1.2.2.1 ?_
    refine wp_getI dX2_showPools_7 flX2_48 rfl (sk2 hS) (sn2 hS) ?_
    refine wp_icmp_ge (tgt := 35) dX2_showPools_10 (by decide) (fun hc1 => ?_) (fun hc1 => ?_)
    · have h := ite_t hc1 h
      exact wp_pick (ks := []) rfl (kx _ (sji h).symm)
    · have h := ite_f hc1 h
      refine wp_aload_n dX2_showPools_13 rfl rfl ?_
      refine wp_getR dX2_showPools_14 flX2_15 rfl hL1.1.1 hL1.1.2.1 hL1.1.2.2.2.1 ?_
      refine wp_getR dX2_showPools_17 flX2_51 rfl (sk30 hS) (sn30 hS) (sr30_1 hS) ?_
      refine wp_iload_n dX2_showPools_20 rfl rfl ?_
      refine wp_aload_n dX2_showPools_21 rfl rfl ?_
      refine wp_iload_n dX2_showPools_22 rfl rfl ?_
      refine wp_iload_n dX2_showPools_23 rfl rfl ?_
      refine wp_iload_n dX2_showPools_24 rfl rfl ?_
      obtain ⟨r2, hF3, h⟩ := obi h
      refine wp_callVi (ci := 2) (As := [.int k1, .int v3, .int k2]) dX2_showPools_25 lbX2_poolWithout mlX2_38 imX2_poolWithout seX2_poolWithout vc2 (ct_X2_poolWithout N 0 (Nat.le_refl _) hS hL1 hF3) rfl rfl (Nat.le_trans (by decide) hd) hL1.1.1 hL1.1.2.1 (Nat.le_of_ble_eq_true rfl) (fun _ => ?_)
      obtain ⟨hb4, h⟩ := ck_inv h
      refine wp_iast dX2_showPools_28 (sk31 hS) (sn31 hS) hb4 ?_
      refine wp_iinc (v := 1) (ls' := [(3, .int (v3 + 1)), (0, .ref t1), (1, .int k1), (2, .int k2)]) dX2_showPools_29 rfl (by decide) (Nat.le_of_ble_eq_true rfl) rfl ?_
      refine wp_goto (tgt := 2) dX2_showPools_32 (by decide) ?_
      exact wp_pick (ks := [1, 2, 3, 0]) rfl (ih _ _ _ h kx)
set_option maxHeartbeats 4000000 in
set_option maxRecDepth 100000 in
theorem ct_X2_showPools (N : Nat) (d : Nat) (hd : 1 ≤ d) {S : gS} {J : gJ} (hS : Sh S) {t1 : Nat} {u1 : Nat} (hL1 : IsLe S t1 u1) {a2 : Int32} {a3 : Int32} {I : gI} {r : gI} (h : mX2_showPools N u1 a2 a3 I = some r) : Ct yX2_showPools (wsY yX2_showPools cX2_showPools 4 none) d 0 0 [.ref t1, .int a2, .int a3] S I J (qE (.inl none) S r J) := by
  refine Ct.of hF (fun _ _ _ _ _ => trivial) (by decide +kernel) (Nat.le_of_ble_eq_true rfl) ⟨Or.inl hL1.1.2.1, trivial, trivial, trivial⟩ ?_
  show Wp RX2 cX2_showPools 4 none [] hF d 0 0 0 [(0, .ref t1), (1, .int a2), (2, .int a3)] [] S I J _
  unfold mX2_showPools at h
  refine wp_iconst (v := 0) dX2_showPools_0 (by decide) ?_
  refine wp_istore_n (ls' := [(3, .int 0), (0, .ref t1), (1, .int a2), (2, .int a3)]) dX2_showPools_1 rfl (Nat.le_of_ble_eq_true rfl) rfl ?_
  obtain ⟨I5, hL96, h⟩ := obi h
  refine wp_pick (ks := [1, 2, 3, 0]) rfl (wX2_showPools_2 N d hd hS t1 u1 hL1 a2 a3 N 0 I _ hL96 (fun _ e7 => ?_))
  cases e7
  exact wp_vret dX2_showPools_35 rfl (by obtain rfl := sji h; exact ⟨rfl, rfl, rfl, rfl⟩)
def mX2_takenOfAll_4 (N : Nat) (u1 : Nat) (I : gI) : Nat → Int32 → Int32 → Option (Int32)
  | 0, _, _ => none
  | n + 1, v1, v2 => if (I 2 1) ≤ v2 then (some v1) else (Option.bind (mX2_taken N u1 v2 I) (fun r2 => mX2_takenOfAll_4 N u1 I n (v1 + r2) (v2 + 1)))
def mX2_takenOfAll (N : Nat) (u1 : Nat) (I : gI) : Option (Int32) := Option.bind (mX2_takenOfAll_4 N u1 I N 0 0) (fun y4 => some y4)
set_option maxHeartbeats 4000000 in
set_option maxRecDepth 100000 in
theorem wX2_takenOfAll_4 (N : Nat) (d : Nat) (hd : 2 ≤ d) {S : gS} {J : gJ} (hS : Sh S) (t1 : Nat) (u1 : Nat) (hL1 : IsLe S t1 u1) (I : gI) {Q : gO → gS → gI → gJ → Prop} :
    ∀ (n : Nat) (v1 : Int32) (v2 : Int32) (res : Int32), mX2_takenOfAll_4 N u1 I n v1 v2 = some res → (∀ (o1 : Int32), res = o1 → Wp RX2 cX2_takenOfAll 3 (some .int) [] hF d 0 0 29 [(1, .int o1)] [] S I J Q) → Wp RX2 cX2_takenOfAll 3 (some .int) [] hF d 0 0 4 [(0, .ref t1), (1, .int v1), (2, .int v2)] [] S I J Q := by
  intro n
  induction n with
  | zero => intro v1 v2 res h; exact nso h
  | succ n ih =>
    intro v1 v2 res h kx
    rw [mX2_takenOfAll_4] at h
    refine wp_iload_n dX2_takenOfAll_4 rfl rfl ?_
    refine wp_aload_n dX2_takenOfAll_5 rfl rfl ?_
    refine wp_getR dX2_takenOfAll_6 flX2_9 rfl hL1.1.1 hL1.1.2.1 hL1.1.2.2.1 ?_
    refine wp_getI dX2_takenOfAll_9 flX2_48 rfl (sk2 hS) (sn2 hS) ?_
    refine wp_icmp_ge (tgt := 29) dX2_takenOfAll_12 (by decide) (fun hc1 => ?_) (fun hc1 => ?_)
    · have h := ite_t hc1 h
      exact wp_pick (ks := [1]) rfl (kx _ (sji h).symm)
    · have h := ite_f hc1 h
      refine wp_iload_n dX2_takenOfAll_15 rfl rfl ?_
      refine wp_aload_n dX2_takenOfAll_16 rfl rfl ?_
      refine wp_iload_n dX2_takenOfAll_17 rfl rfl ?_
      obtain ⟨r2, hF3, h⟩ := obi h
      refine wp_callVi (ci := 2) (As := [.int v2]) dX2_takenOfAll_18 lbX2_taken mlX2_56 imX2_taken seX2_taken vc2 (ct_X2_taken N 1 (Nat.le_refl _) hS hL1 hF3) rfl rfl (Nat.le_trans (by decide) hd) hL1.1.1 hL1.1.2.1 (Nat.le_of_ble_eq_true rfl) (fun _ => ?_)
      refine wp_iadd dX2_takenOfAll_21 ?_
      refine wp_istore_n (ls' := [(1, .int (v1 + r2)), (0, .ref t1), (2, .int v2)]) dX2_takenOfAll_22 rfl (Nat.le_of_ble_eq_true rfl) rfl ?_
      refine wp_iinc (v := 1) (ls' := [(2, .int (v2 + 1)), (1, .int (v1 + r2)), (0, .ref t1)]) dX2_takenOfAll_23 rfl (by decide) (Nat.le_of_ble_eq_true rfl) rfl ?_
      refine wp_goto (tgt := 4) dX2_takenOfAll_26 (by decide) ?_
      exact wp_pick (ks := [2, 1, 0]) rfl (ih _ _ _ h kx)
set_option maxHeartbeats 4000000 in
set_option maxRecDepth 100000 in
theorem ct_X2_takenOfAll (N : Nat) (d : Nat) (hd : 2 ≤ d) {S : gS} {J : gJ} (hS : Sh S) {t1 : Nat} {u1 : Nat} (hL1 : IsLe S t1 u1) {I : gI} {r : Int32} (h : mX2_takenOfAll N u1 I = some r) : Ct yX2_takenOfAll (wsY yX2_takenOfAll cX2_takenOfAll 3 (some .int)) d 0 0 [.ref t1] S I J (qE (.inl (some (.int r))) S I J) := by
  refine Ct.of hF (fun _ _ _ _ _ => trivial) (by decide +kernel) (Nat.le_of_ble_eq_true rfl) ⟨Or.inl hL1.1.2.1, trivial⟩ ?_
  show Wp RX2 cX2_takenOfAll 3 (some .int) [] hF d 0 0 0 [(0, .ref t1)] [] S I J _
  unfold mX2_takenOfAll at h
  refine wp_iconst (v := 0) dX2_takenOfAll_0 (by decide) ?_
  refine wp_istore_n (ls' := [(1, .int 0), (0, .ref t1)]) dX2_takenOfAll_1 rfl (Nat.le_of_ble_eq_true rfl) rfl ?_
  refine wp_iconst (v := 0) dX2_takenOfAll_2 (by decide) ?_
  refine wp_istore_n (ls' := [(2, .int 0), (1, .int 0), (0, .ref t1)]) dX2_takenOfAll_3 rfl (Nat.le_of_ble_eq_true rfl) rfl ?_
  obtain ⟨y4, hL95, h⟩ := obi h
  refine wp_pick (ks := [2, 1, 0]) rfl (wX2_takenOfAll_4 N d hd hS t1 u1 hL1 I N 0 0 _ hL95 (fun _ e6 => ?_))
  cases e6
  refine wp_iload_n dX2_takenOfAll_29 rfl rfl ?_
  exact wp_iret dX2_takenOfAll_30 rfl (by obtain rfl := sji h; exact ⟨rfl, rfl, rfl, rfl⟩)
def mX2_metricOfAll_4 (N : Nat) (u1 : Nat) (I : gI) : Nat → Int32 → Int32 → Option (Int32)
  | 0, _, _ => none
  | n + 1, v1, v2 => if (I 2 2) ≤ v2 then (some v1) else (ck v2 9 (Option.bind (mX4_metricOf N (I (u1 + 1) v2.toNatClampNeg) I) (fun r3 => mX2_metricOfAll_4 N u1 I n (v1 + r3) (v2 + 1))))
def mX2_metricOfAll (N : Nat) (u1 : Nat) (I : gI) : Option (Int32) := Option.bind (mX2_metricOfAll_4 N u1 I N 0 0) (fun y5 => some y5)
set_option maxHeartbeats 4000000 in
set_option maxRecDepth 100000 in
theorem wX2_metricOfAll_4 (N : Nat) (d : Nat) (hd : 1 ≤ d) {S : gS} {J : gJ} (hS : Sh S) (t1 : Nat) (u1 : Nat) (hL1 : IsLe S t1 u1) (I : gI) {Q : gO → gS → gI → gJ → Prop} :
    ∀ (n : Nat) (v1 : Int32) (v2 : Int32) (res : Int32), mX2_metricOfAll_4 N u1 I n v1 v2 = some res → (∀ (o1 : Int32), res = o1 → Wp RX2 cX2_metricOfAll 3 (some .int) [] hF d 0 0 40 [(1, .int o1)] [] S I J Q) → Wp RX2 cX2_metricOfAll 3 (some .int) [] hF d 0 0 4 [(0, .ref t1), (1, .int v1), (2, .int v2)] [] S I J Q := by
  intro n
  induction n with
  | zero => intro v1 v2 res h; exact nso h
  | succ n ih =>
    intro v1 v2 res h kx
    rw [mX2_metricOfAll_4] at h
    refine wp_iload_n dX2_metricOfAll_4 rfl rfl ?_
    refine wp_aload_n dX2_metricOfAll_5 rfl rfl ?_
    refine wp_getR dX2_metricOfAll_6 flX2_9 rfl hL1.1.1 hL1.1.2.1 hL1.1.2.2.1 ?_
    refine wp_getI dX2_metricOfAll_9 flX2_23 rfl (sk2 hS) (sn2 hS) ?_
    refine wp_icmp_ge (tgt := 40) dX2_metricOfAll_12 (by decide) (fun hc1 => ?_) (fun hc1 => ?_)
    · have h := ite_t hc1 h
      exact wp_pick (ks := [1]) rfl (kx _ (sji h).symm)
    · have h := ite_f hc1 h
      refine wp_iload_n dX2_metricOfAll_15 rfl rfl ?_
      refine wp_aload_n dX2_metricOfAll_16 rfl rfl ?_
      refine wp_getR dX2_metricOfAll_17 flX2_9 rfl hL1.1.1 hL1.1.2.1 hL1.1.2.2.1 ?_
      refine wp_aload_n dX2_metricOfAll_20 rfl rfl ?_
      refine wp_getR dX2_metricOfAll_21 flX2_19 rfl hL1.1.1 hL1.1.2.1 hL1.1.2.2.2.2 ?_
      refine wp_getR dX2_metricOfAll_24 flX2_29 rfl hL1.2.1 hL1.2.n0 hL1.2.2.2.2.2.1 ?_
      refine wp_iload_n dX2_metricOfAll_27 rfl rfl ?_
      obtain ⟨hb2, h⟩ := ck_inv h
      refine wp_iald dX2_metricOfAll_28 hL1.2.2.2.1 hL1.2.n1 hb2 ?_
      obtain ⟨r3, hF4, h⟩ := obi h
      refine wp_callVNi (ci := 4) (As := [.int (I (u1 + 1) v2.toNatClampNeg)]) dX2_metricOfAll_29 lbX4_metricOf mnX2_60 imX4_metricOf seX4_metricOf vc4 (ct_X4_metricOf N 0 (Nat.le_refl _) hS  hF4) rfl rfl (Nat.le_trans (by decide) hd) (sk2 hS) (sn2 hS) (Nat.le_of_ble_eq_true rfl) (fun _ => ?_)
      refine wp_iadd dX2_metricOfAll_32 ?_
      refine wp_istore_n (ls' := [(1, .int (v1 + r3)), (0, .ref t1), (2, .int v2)]) dX2_metricOfAll_33 rfl (Nat.le_of_ble_eq_true rfl) rfl ?_
      refine wp_iinc (v := 1) (ls' := [(2, .int (v2 + 1)), (1, .int (v1 + r3)), (0, .ref t1)]) dX2_metricOfAll_34 rfl (by decide) (Nat.le_of_ble_eq_true rfl) rfl ?_
      refine wp_goto (tgt := 4) dX2_metricOfAll_37 (by decide) ?_
      exact wp_pick (ks := [2, 1, 0]) rfl (ih _ _ _ h kx)
set_option maxHeartbeats 4000000 in
set_option maxRecDepth 100000 in
theorem ct_X2_metricOfAll (N : Nat) (d : Nat) (hd : 1 ≤ d) {S : gS} {J : gJ} (hS : Sh S) {t1 : Nat} {u1 : Nat} (hL1 : IsLe S t1 u1) {I : gI} {r : Int32} (h : mX2_metricOfAll N u1 I = some r) : Ct yX2_metricOfAll (wsY yX2_metricOfAll cX2_metricOfAll 3 (some .int)) d 0 0 [.ref t1] S I J (qE (.inl (some (.int r))) S I J) := by
  refine Ct.of hF (fun _ _ _ _ _ => trivial) (by decide +kernel) (Nat.le_of_ble_eq_true rfl) ⟨Or.inl hL1.1.2.1, trivial⟩ ?_
  show Wp RX2 cX2_metricOfAll 3 (some .int) [] hF d 0 0 0 [(0, .ref t1)] [] S I J _
  unfold mX2_metricOfAll at h
  refine wp_iconst (v := 0) dX2_metricOfAll_0 (by decide) ?_
  refine wp_istore_n (ls' := [(1, .int 0), (0, .ref t1)]) dX2_metricOfAll_1 rfl (Nat.le_of_ble_eq_true rfl) rfl ?_
  refine wp_iconst (v := 0) dX2_metricOfAll_2 (by decide) ?_
  refine wp_istore_n (ls' := [(2, .int 0), (1, .int 0), (0, .ref t1)]) dX2_metricOfAll_3 rfl (Nat.le_of_ble_eq_true rfl) rfl ?_
  obtain ⟨y5, hL96, h⟩ := obi h
  refine wp_pick (ks := [2, 1, 0]) rfl (wX2_metricOfAll_4 N d hd hS t1 u1 hL1 I N 0 0 _ hL96 (fun _ e7 => ?_))
  cases e7
  refine wp_iload_n dX2_metricOfAll_40 rfl rfl ?_
  exact wp_iret dX2_metricOfAll_41 rfl (by obtain rfl := sji h; exact ⟨rfl, rfl, rfl, rfl⟩)
def mX2_percentOf (N : Nat) (u1 : Nat) (a2 : Int32) (I : gI) : Option (Int32) := if a2 = (-1) then (some 0) else (ck a2 16 (if 0 < (I 6 a2.toNatClampNeg) then (Option.bind (mX2_taken N u1 a2 I) (fun r4 => nz (I 6 a2.toNatClampNeg) (some ((100 * r4) / (I 6 a2.toNatClampNeg))))) else (some 0)))
set_option maxHeartbeats 4000000 in
set_option maxRecDepth 100000 in
theorem ct_X2_percentOf (N : Nat) (d : Nat) (hd : 2 ≤ d) {S : gS} {J : gJ} (hS : Sh S) {t1 : Nat} {u1 : Nat} (hL1 : IsLe S t1 u1) {a2 : Int32} {I : gI} {r : Int32} (h : mX2_percentOf N u1 a2 I = some r) : Ct yX2_percentOf (wsY yX2_percentOf cX2_percentOf 2 (some .int)) d 0 0 [.ref t1, .int a2] S I J (qE (.inl (some (.int r))) S I J) := by
  refine Ct.of hF (fun _ _ _ _ _ => trivial) (by decide +kernel) (Nat.le_of_ble_eq_true rfl) ⟨Or.inl hL1.1.2.1, trivial, trivial⟩ ?_
  show Wp RX2 cX2_percentOf 2 (some .int) [] hF d 0 0 0 [(0, .ref t1), (1, .int a2)] [] S I J _
  unfold mX2_percentOf at h
  refine wp_iload_n dX2_percentOf_0 rfl rfl ?_
  refine wp_iconst (v := (-1)) dX2_percentOf_1 (by decide) ?_
  refine wp_icmp_eq (tgt := 17) dX2_percentOf_2 (by decide) (fun hc1 => ?_) (fun hc1 => ?_)
  · have h := ite_t hc1 h
    refine wp_iconst (v := 0) dX2_percentOf_17 (by decide) ?_
    exact wp_iret dX2_percentOf_18 rfl (by obtain rfl := sji h; exact ⟨rfl, rfl, rfl, rfl⟩)
  · have h := ite_f hc1 h
    refine wp_aload_n dX2_percentOf_5 rfl rfl ?_
    refine wp_getR dX2_percentOf_6 flX2_9 rfl hL1.1.1 hL1.1.2.1 hL1.1.2.2.1 ?_
    refine wp_getR dX2_percentOf_9 flX2_35 rfl (sk2 hS) (sn2 hS) (sr2_6 hS) ?_
    refine wp_iload_n dX2_percentOf_12 rfl rfl ?_
    obtain ⟨hb2, h⟩ := ck_inv h
    refine wp_iald dX2_percentOf_13 (sk6 hS) (sn6 hS) hb2 ?_
    refine wp_if_gt (tgt := 19) dX2_percentOf_14 (by decide) (fun hc3 => ?_) (fun hc3 => ?_)
    · have h := ite_t hc3 h
      refine wp_bipush (v := 100) dX2_percentOf_19 (by decide) ?_
      refine wp_aload_n dX2_percentOf_21 rfl rfl ?_
      refine wp_iload_n dX2_percentOf_22 rfl rfl ?_
      obtain ⟨r4, hF5, h⟩ := obi h
      refine wp_callVi (ci := 2) (As := [.int a2]) dX2_percentOf_23 lbX2_taken mlX2_56 imX2_taken seX2_taken vc2 (ct_X2_taken N 1 (Nat.le_refl _) hS hL1 hF5) rfl rfl (Nat.le_trans (by decide) hd) hL1.1.1 hL1.1.2.1 (Nat.le_of_ble_eq_true rfl) (fun _ => ?_)
      refine wp_imul dX2_percentOf_26 ?_
      refine wp_aload_n dX2_percentOf_27 rfl rfl ?_
      refine wp_getR dX2_percentOf_28 flX2_9 rfl hL1.1.1 hL1.1.2.1 hL1.1.2.2.1 ?_
      refine wp_getR dX2_percentOf_31 flX2_35 rfl (sk2 hS) (sn2 hS) (sr2_6 hS) ?_
      refine wp_iload_n dX2_percentOf_34 rfl rfl ?_
      refine wp_iald dX2_percentOf_35 (sk6 hS) (sn6 hS) hb2 ?_
      obtain ⟨hz6, h⟩ := nz_inv h
      refine wp_idiv dX2_percentOf_36 hz6 ?_
      exact wp_iret dX2_percentOf_37 rfl (by obtain rfl := sji h; exact ⟨rfl, rfl, rfl, rfl⟩)
    · have h := ite_f hc3 h
      refine wp_iconst (v := 0) dX2_percentOf_17 (by decide) ?_
      exact wp_iret dX2_percentOf_18 rfl (by obtain rfl := sji h; exact ⟨rfl, rfl, rfl, rfl⟩)
def mX2_fullestLink_4 (N : Nat) (u1 : Nat) (I : gI) : Nat → Int32 → Int32 → Option (Int32)
  | 0, _, _ => none
  | n + 1, v1, v2 => if (I 2 1) ≤ v2 then (some v1) else (Option.bind (if ((ushr (I u1 2) v2) &&& 1) = 0 then (some 0) else (some 1) : Option (Int32)) (fun x2 => if x2 = 0 then (mX2_fullestLink_4 N u1 I n v1 (v2 + 1)) else (if v1 = (-1) then (mX2_fullestLink_4 N u1 I n v2 (v2 + 1)) else (Option.bind (mX2_percentOf N u1 v2 I) (fun r6 => Option.bind (mX2_percentOf N u1 v1 I) (fun r8 => if r6 ≤ r8 then (mX2_fullestLink_4 N u1 I n v1 (v2 + 1)) else (mX2_fullestLink_4 N u1 I n v2 (v2 + 1))))))))
def mX2_fullestLink (N : Nat) (u1 : Nat) (I : gI) : Option (Int32) := Option.bind (mX2_fullestLink_4 N u1 I N (-1) 0) (fun y12 => some y12)
set_option maxHeartbeats 4000000 in
set_option maxRecDepth 100000 in
theorem wX2_fullestLink_4 (N : Nat) (d : Nat) (hd : 3 ≤ d) {S : gS} {J : gJ} (hS : Sh S) (t1 : Nat) (u1 : Nat) (hL1 : IsLe S t1 u1) (I : gI) {Q : gO → gS → gI → gJ → Prop} :
    ∀ (n : Nat) (v1 : Int32) (v2 : Int32) (res : Int32), mX2_fullestLink_4 N u1 I n v1 v2 = some res → (∀ (o1 : Int32), res = o1 → Wp RX2 cX2_fullestLink 4 (some .int) [] hF d 0 0 65 [(1, .int o1)] [] S I J Q) → Wp RX2 cX2_fullestLink 4 (some .int) [] hF d 0 0 4 [(0, .ref t1), (1, .int v1), (2, .int v2)] [] S I J Q := by
  intro n
  induction n with
  | zero => intro v1 v2 res h; exact nso h
  | succ n ih =>
    intro v1 v2 res h kx
    rw [mX2_fullestLink_4] at h
    refine wp_iload_n dX2_fullestLink_4 rfl rfl ?_
    refine wp_aload_n dX2_fullestLink_5 rfl rfl ?_
    refine wp_getR dX2_fullestLink_6 flX2_9 rfl hL1.1.1 hL1.1.2.1 hL1.1.2.2.1 ?_
    refine wp_getI dX2_fullestLink_9 flX2_48 rfl (sk2 hS) (sn2 hS) ?_
    refine wp_icmp_ge (tgt := 65) dX2_fullestLink_12 (by decide) (fun hc1 => ?_) (fun hc1 => ?_)
    · have h := ite_t hc1 h
      exact wp_pick (ks := [1]) rfl (kx _ (sji h).symm)
    · have h := ite_f hc1 h
      refine wp_aload_n dX2_fullestLink_15 rfl rfl ?_
      refine wp_getR dX2_fullestLink_16 flX2_19 rfl hL1.1.1 hL1.1.2.1 hL1.1.2.2.2.2 ?_
      refine wp_getI dX2_fullestLink_19 flX2_63 rfl hL1.2.1 hL1.2.n0 ?_
      refine wp_iload_n dX2_fullestLink_22 rfl rfl ?_
      refine wp_iushr dX2_fullestLink_23 ?_
      refine wp_iconst (v := 1) dX2_fullestLink_24 (by decide) ?_
      refine wp_iand dX2_fullestLink_25 ?_
      obtain ⟨x2, hh11, h⟩ := obi h
      have hJ : Wp RX2 cX2_fullestLink 4 (some .int) [] hF d 0 0 34 [(0, .ref t1), (1, .int v1), (2, .int v2)] [.int x2] S I J Q := by
        refine wp_istore_n (ls' := [(3, .int x2), (0, .ref t1), (1, .int v1), (2, .int v2)]) dX2_fullestLink_34 rfl (Nat.le_of_ble_eq_true rfl) rfl ?_
        refine wp_iload_n dX2_fullestLink_35 rfl rfl ?_
        refine wp_if_eq (tgt := 59) dX2_fullestLink_36 (by decide) (fun hc4 => ?_) (fun hc4 => ?_)
        · have h := ite_t hc4 h
          refine wp_iinc (v := 1) (ls' := [(2, .int (v2 + 1)), (3, .int x2), (0, .ref t1), (1, .int v1)]) dX2_fullestLink_59 rfl (by decide) (Nat.le_of_ble_eq_true rfl) rfl ?_
          refine wp_goto (tgt := 4) dX2_fullestLink_62 (by decide) ?_
          exact wp_pick (ks := [2, 3, 0]) rfl (ih _ _ _ h kx)
        · have h := ite_f hc4 h
          refine wp_iload_n dX2_fullestLink_39 rfl rfl ?_
          refine wp_iconst (v := (-1)) dX2_fullestLink_40 (by decide) ?_
          refine wp_icmp_eq (tgt := 57) dX2_fullestLink_41 (by decide) (fun hc5 => ?_) (fun hc5 => ?_)
          · have h := ite_t hc5 h
            refine wp_iload_n dX2_fullestLink_57 rfl rfl ?_
            refine wp_istore_n (ls' := [(1, .int v2), (3, .int x2), (0, .ref t1), (2, .int v2)]) dX2_fullestLink_58 rfl (Nat.le_of_ble_eq_true rfl) rfl ?_
            refine wp_iinc (v := 1) (ls' := [(2, .int (v2 + 1)), (1, .int v2), (3, .int x2), (0, .ref t1)]) dX2_fullestLink_59 rfl (by decide) (Nat.le_of_ble_eq_true rfl) rfl ?_
            refine wp_goto (tgt := 4) dX2_fullestLink_62 (by decide) ?_
            exact wp_pick (ks := [3, 1, 0]) rfl (ih _ _ _ h kx)
          · have h := ite_f hc5 h
            refine wp_aload_n dX2_fullestLink_44 rfl rfl ?_
            refine wp_iload_n dX2_fullestLink_45 rfl rfl ?_
            obtain ⟨r6, hF7, h⟩ := obi h
            refine wp_callVi (ci := 2) (As := [.int v2]) dX2_fullestLink_46 lbX2_percentOf mlX2_66 imX2_percentOf seX2_percentOf vc2 (ct_X2_percentOf N 2 (Nat.le_refl _) hS hL1 hF7) rfl rfl (Nat.le_trans (by decide) hd) hL1.1.1 hL1.1.2.1 (Nat.le_of_ble_eq_true rfl) (fun _ => ?_)
            refine wp_aload_n dX2_fullestLink_49 rfl rfl ?_
            refine wp_iload_n dX2_fullestLink_50 rfl rfl ?_
            obtain ⟨r8, hF9, h⟩ := obi h
            refine wp_callVi (ci := 2) (As := [.int v1]) dX2_fullestLink_51 lbX2_percentOf mlX2_66 imX2_percentOf seX2_percentOf vc2 (ct_X2_percentOf N 2 (Nat.le_refl _) hS hL1 hF9) rfl rfl (Nat.le_trans (by decide) hd) hL1.1.1 hL1.1.2.1 (Nat.le_of_ble_eq_true rfl) (fun _ => ?_)
            refine wp_icmp_le (tgt := 59) dX2_fullestLink_54 (by decide) (fun hc10 => ?_) (fun hc10 => ?_)
            · have h := ite_t hc10 h
              refine wp_iinc (v := 1) (ls' := [(2, .int (v2 + 1)), (3, .int x2), (0, .ref t1), (1, .int v1)]) dX2_fullestLink_59 rfl (by decide) (Nat.le_of_ble_eq_true rfl) rfl ?_
              refine wp_goto (tgt := 4) dX2_fullestLink_62 (by decide) ?_
              exact wp_pick (ks := [2, 3, 0]) rfl (ih _ _ _ h kx)
            · have h := ite_f hc10 h
              refine wp_iload_n dX2_fullestLink_57 rfl rfl ?_
              refine wp_istore_n (ls' := [(1, .int v2), (3, .int x2), (0, .ref t1), (2, .int v2)]) dX2_fullestLink_58 rfl (Nat.le_of_ble_eq_true rfl) rfl ?_
              refine wp_iinc (v := 1) (ls' := [(2, .int (v2 + 1)), (1, .int v2), (3, .int x2), (0, .ref t1)]) dX2_fullestLink_59 rfl (by decide) (Nat.le_of_ble_eq_true rfl) rfl ?_
              refine wp_goto (tgt := 4) dX2_fullestLink_62 (by decide) ?_
              exact wp_pick (ks := [3, 1, 0]) rfl (ih _ _ _ h kx)
      clear h
      have h := hh11
      clear hh11
      refine wp_if_eq (tgt := 33) dX2_fullestLink_26 (by decide) (fun hc3 => ?_) (fun hc3 => ?_)
      · have h := ite_t hc3 h
        refine wp_iconst (v := 0) dX2_fullestLink_33 (by decide) ?_
        cases h
        exact wp_pick (ks := [0, 1, 2]) rfl hJ
      · have h := ite_f hc3 h
        refine wp_iconst (v := 1) dX2_fullestLink_29 (by decide) ?_
        refine wp_goto (tgt := 34) dX2_fullestLink_30 (by decide) ?_
        cases h
        exact wp_pick (ks := [0, 1, 2]) rfl hJ
set_option maxHeartbeats 4000000 in
set_option maxRecDepth 100000 in
theorem ct_X2_fullestLink (N : Nat) (d : Nat) (hd : 3 ≤ d) {S : gS} {J : gJ} (hS : Sh S) {t1 : Nat} {u1 : Nat} (hL1 : IsLe S t1 u1) {I : gI} {r : Int32} (h : mX2_fullestLink N u1 I = some r) : Ct yX2_fullestLink (wsY yX2_fullestLink cX2_fullestLink 4 (some .int)) d 0 0 [.ref t1] S I J (qE (.inl (some (.int r))) S I J) := by
  refine Ct.of hF (fun _ _ _ _ _ => trivial) (by decide +kernel) (Nat.le_of_ble_eq_true rfl) ⟨Or.inl hL1.1.2.1, trivial⟩ ?_
  show Wp RX2 cX2_fullestLink 4 (some .int) [] hF d 0 0 0 [(0, .ref t1)] [] S I J _
  unfold mX2_fullestLink at h
  refine wp_iconst (v := (-1)) dX2_fullestLink_0 (by decide) ?_
  refine wp_istore_n (ls' := [(1, .int (-1)), (0, .ref t1)]) dX2_fullestLink_1 rfl (Nat.le_of_ble_eq_true rfl) rfl ?_
  refine wp_iconst (v := 0) dX2_fullestLink_2 (by decide) ?_
  refine wp_istore_n (ls' := [(2, .int 0), (1, .int (-1)), (0, .ref t1)]) dX2_fullestLink_3 rfl (Nat.le_of_ble_eq_true rfl) rfl ?_
  obtain ⟨y12, hL913, h⟩ := obi h
  refine wp_pick (ks := [2, 1, 0]) rfl (wX2_fullestLink_4 N d hd hS t1 u1 hL1 I N (-1) 0 _ hL913 (fun _ e14 => ?_))
  cases e14
  refine wp_iload_n dX2_fullestLink_65 rfl rfl ?_
  exact wp_iret dX2_fullestLink_66 rfl (by obtain rfl := sji h; exact ⟨rfl, rfl, rfl, rfl⟩)
def mX2_openTo_4 (u1 : Nat) (k1 : Int32) (I : gI) : Nat → Int32 → Int32 → Option (Int32)
  | 0, _, _ => none
  | n + 1, v2, v3 => if (I 2 1) ≤ v3 then (some v2) else (ck v3 16 (ck k1 9 (if ((I 7 v3.toNatClampNeg) &&& (I 13 k1.toNatClampNeg)) = 0 then (mX2_openTo_4 u1 k1 I n (v2 ||| ((I u1 2) &&& ((1 : Int32) <<< (v3 &&& 31)))) (v3 + 1)) else (mX2_openTo_4 u1 k1 I n v2 (v3 + 1)))))
def mX2_openTo (N : Nat) (u1 : Nat) (a2 : Int32) (I : gI) : Option (Int32) := Option.bind (mX2_openTo_4 u1 a2 I N 0 0) (fun y5 => some y5)
set_option maxHeartbeats 4000000 in
set_option maxRecDepth 100000 in
theorem wX2_openTo_4 (d : Nat) (hd : 0 ≤ d) {S : gS} {J : gJ} (hS : Sh S) (t1 : Nat) (u1 : Nat) (hL1 : IsLe S t1 u1) (k1 : Int32) (I : gI) {Q : gO → gS → gI → gJ → Prop} :
    ∀ (n : Nat) (v2 : Int32) (v3 : Int32) (res : Int32), mX2_openTo_4 u1 k1 I n v2 v3 = some res → (∀ (o2 : Int32), res = o2 → Wp RX2 cX2_openTo 4 (some .int) [] hF d 0 0 57 [(2, .int o2)] [] S I J Q) → Wp RX2 cX2_openTo 4 (some .int) [] hF d 0 0 4 [(0, .ref t1), (1, .int k1), (2, .int v2), (3, .int v3)] [] S I J Q := by
  intro n
  induction n with
  | zero => intro v2 v3 res h; exact nso h
  | succ n ih =>
    intro v2 v3 res h kx
    rw [mX2_openTo_4] at h
    refine wp_iload_n dX2_openTo_4 rfl rfl ?_
    refine wp_aload_n dX2_openTo_5 rfl rfl ?_
    refine wp_getR dX2_openTo_6 flX2_9 rfl hL1.1.1 hL1.1.2.1 hL1.1.2.2.1 ?_
    refine wp_getI dX2_openTo_9 flX2_48 rfl (sk2 hS) (sn2 hS) ?_
    refine wp_icmp_ge (tgt := 57) dX2_openTo_12 (by decide) (fun hc1 => ?_) (fun hc1 => ?_)
    · have h := ite_t hc1 h
      exact wp_pick (ks := [2]) rfl (kx _ (sji h).symm)
    · have h := ite_f hc1 h
      refine wp_aload_n dX2_openTo_15 rfl rfl ?_
      refine wp_getR dX2_openTo_16 flX2_9 rfl hL1.1.1 hL1.1.2.1 hL1.1.2.2.1 ?_
      refine wp_getR dX2_openTo_19 flX2_69 rfl (sk2 hS) (sn2 hS) (sr2_7 hS) ?_
      refine wp_iload_n dX2_openTo_22 rfl rfl ?_
      obtain ⟨hb2, h⟩ := ck_inv h
      refine wp_iald dX2_openTo_23 (sk7 hS) (sn7 hS) hb2 ?_
      refine wp_aload_n dX2_openTo_24 rfl rfl ?_
      refine wp_getR dX2_openTo_25 flX2_9 rfl hL1.1.1 hL1.1.2.1 hL1.1.2.2.1 ?_
      refine wp_getR dX2_openTo_28 flX2_72 rfl (sk2 hS) (sn2 hS) (sr2_13 hS) ?_
      refine wp_iload_n dX2_openTo_31 rfl rfl ?_
      obtain ⟨hb3, h⟩ := ck_inv h
      refine wp_iald dX2_openTo_32 (sk13 hS) (sn13 hS) hb3 ?_
      refine wp_iand dX2_openTo_33 ?_
      refine wp_if_ne (tgt := 51) dX2_openTo_34 (by decide) (fun hc4 => ?_) (fun hc4 => ?_)
      · have h := ite_f hc4 h
        refine wp_iinc (v := 1) (ls' := [(3, .int (v3 + 1)), (0, .ref t1), (1, .int k1), (2, .int v2)]) dX2_openTo_51 rfl (by decide) (Nat.le_of_ble_eq_true rfl) rfl ?_
        refine wp_goto (tgt := 4) dX2_openTo_54 (by decide) ?_
        exact wp_pick (ks := [1, 2, 3, 0]) rfl (ih _ _ _ h kx)
      · have h := ite_t hc4 h
        refine wp_iload_n dX2_openTo_37 rfl rfl ?_
        refine wp_aload_n dX2_openTo_38 rfl rfl ?_
        refine wp_getR dX2_openTo_39 flX2_19 rfl hL1.1.1 hL1.1.2.1 hL1.1.2.2.2.2 ?_
        refine wp_getI dX2_openTo_42 flX2_63 rfl hL1.2.1 hL1.2.n0 ?_
        refine wp_iconst (v := 1) dX2_openTo_45 (by decide) ?_
        refine wp_iload_n dX2_openTo_46 rfl rfl ?_
        refine wp_ishl dX2_openTo_47 ?_
        refine wp_iand dX2_openTo_48 ?_
        refine wp_ior dX2_openTo_49 ?_
        refine wp_istore_n (ls' := [(2, .int (v2 ||| ((I u1 2) &&& ((1 : Int32) <<< (v3 &&& 31))))), (0, .ref t1), (1, .int k1), (3, .int v3)]) dX2_openTo_50 rfl (Nat.le_of_ble_eq_true rfl) rfl ?_
        refine wp_iinc (v := 1) (ls' := [(3, .int (v3 + 1)), (2, .int (v2 ||| ((I u1 2) &&& ((1 : Int32) <<< (v3 &&& 31))))), (0, .ref t1), (1, .int k1)]) dX2_openTo_51 rfl (by decide) (Nat.le_of_ble_eq_true rfl) rfl ?_
        refine wp_goto (tgt := 4) dX2_openTo_54 (by decide) ?_
        exact wp_pick (ks := [2, 3, 1, 0]) rfl (ih _ _ _ h kx)
set_option maxHeartbeats 4000000 in
set_option maxRecDepth 100000 in
theorem ct_X2_openTo (N : Nat) (d : Nat) (hd : 0 ≤ d) {S : gS} {J : gJ} (hS : Sh S) {t1 : Nat} {u1 : Nat} (hL1 : IsLe S t1 u1) {a2 : Int32} {I : gI} {r : Int32} (h : mX2_openTo N u1 a2 I = some r) : Ct yX2_openTo (wsY yX2_openTo cX2_openTo 4 (some .int)) d 0 0 [.ref t1, .int a2] S I J (qE (.inl (some (.int r))) S I J) := by
  refine Ct.of hF (fun _ _ _ _ _ => trivial) (by decide +kernel) (Nat.le_of_ble_eq_true rfl) ⟨Or.inl hL1.1.2.1, trivial, trivial⟩ ?_
  show Wp RX2 cX2_openTo 4 (some .int) [] hF d 0 0 0 [(0, .ref t1), (1, .int a2)] [] S I J _
  unfold mX2_openTo at h
  refine wp_iconst (v := 0) dX2_openTo_0 (by decide) ?_
  refine wp_istore_n (ls' := [(2, .int 0), (0, .ref t1), (1, .int a2)]) dX2_openTo_1 rfl (Nat.le_of_ble_eq_true rfl) rfl ?_
  refine wp_iconst (v := 0) dX2_openTo_2 (by decide) ?_
  refine wp_istore_n (ls' := [(3, .int 0), (2, .int 0), (0, .ref t1), (1, .int a2)]) dX2_openTo_3 rfl (Nat.le_of_ble_eq_true rfl) rfl ?_
  obtain ⟨y5, hL96, h⟩ := obi h
  refine wp_pick (ks := [2, 3, 1, 0]) rfl (wX2_openTo_4 d hd hS t1 u1 hL1 a2 I N 0 0 _ hL96 (fun _ e7 => ?_))
  cases e7
  refine wp_iload_n dX2_openTo_57 rfl rfl ?_
  exact wp_iret dX2_openTo_58 rfl (by obtain rfl := sji h; exact ⟨rfl, rfl, rfl, rfl⟩)
def mX6_leastMetric_3 (k1 : Int32) (k2 : Int32) (k3 : Int32) (k4 : Int32) : Nat → Int32 → gI → Option (gI)
  | 0, _, _ => none
  | n + 1, v5, I => if 8 ≤ v5 then (some I) else (if v5 = k3 then (ck v5 64 (mX6_leastMetric_3 k1 k2 k3 k4 n (v5 + 1) (upd2 I 32 v5.toNatClampNeg 0))) else (ck v5 64 (mX6_leastMetric_3 k1 k2 k3 k4 n (v5 + 1) (upd2 I 32 v5.toNatClampNeg 1000000))))
def mX6_leastMetric_115 (k1 : Int32) (k2 : Int32) (k4 : Int32) (k6 : Int32) (k7 : Int32) : Nat → Int32 → Int32 → gI → Option (Int32 × gI)
  | 0, _, _, _ => none
  | n + 1, v5, v8, I => if (I 2 1) ≤ v8 then (some (v5, I)) else (ck v8 16 (ck (k6 + (I 4 v8.toNatClampNeg)) 64 (nm ((I 5 v8.toNatClampNeg) + (I 32 (k6 + (I 4 v8.toNatClampNeg)).toNatClampNeg)) (fun x18 => if ((ushr k1 v8) &&& 1) = 0 then (mX6_leastMetric_115 k1 k2 k4 k6 k7 n v5 (v8 + 1) I) else (ck (k7 + (I 3 v8.toNatClampNeg)) 64 (if (I 32 (k7 + (I 3 v8.toNatClampNeg)).toNatClampNeg) ≤ x18 then (mX6_leastMetric_115 k1 k2 k4 k6 k7 n v5 (v8 + 1) I) else (mX6_leastMetric_115 k1 k2 k4 k6 k7 n 1 (v8 + 1) (upd2 I 32 (k7 + (I 3 v8.toNatClampNeg)).toNatClampNeg x18))))))))
def mX6_leastMetric_43 (N : Nat) (k1 : Int32) (k2 : Int32) (k4 : Int32) : Nat → Int32 → gI → Option (gI)
  | 0, _, _ => none
  | n + 1, v5, I => if v5 = 0 then (some I) else (if k4 ≤ (I 30 6) then (some I) else (if 7 ≤ (I 30 6) then (some I) else (nn ((I 30 6) * 8) (nn (((I 30 6) * 8) + 8) (lt9 (((I 30 6) * 8).toNatClampNeg + (8 : Int32).toNatClampNeg) 64 (lt9 ((((I 30 6) * 8) + 8).toNatClampNeg + (8 : Int32).toNatClampNeg) 64 (nm (updRow (upd2 I 30 6 ((I 30 6) + 1)) 32 (va_cpy ((upd2 I 30 6 ((I 30 6) + 1)) 32) ((upd2 I 30 6 ((I 30 6) + 1)) 32) ((I 30 6) * 8).toNatClampNeg (((I 30 6) * 8) + 8).toNatClampNeg (8 : Int32).toNatClampNeg)) (fun I13 => Option.bind (mX6_leastMetric_115 k1 k2 k4 ((I 30 6) * 8) (((I 30 6) * 8) + 8) N 0 0 I13) (fun (y23, I24) => mX6_leastMetric_43 N k1 k2 k4 n y23 I24)))))))))
def mX6_leastMetric (N : Nat) (a2 : Int32) (a3 : Int32) (a4 : Int32) (a5 : Int32) (I : gI) : Option (Int32 × gI) := Option.bind (mX6_leastMetric_3 a2 a3 a4 a5 N 0 I) (fun I5 => Option.bind (mX6_leastMetric_43 N a2 a3 a5 N 1 (upd2 I5 30 6 0)) (fun I27 => ck (((I27 30 6) * 8) + a3) 64 (some (I27 32 (((I27 30 6) * 8) + a3).toNatClampNeg, I27))))
set_option maxHeartbeats 4000000 in
set_option maxRecDepth 100000 in
theorem wX6_leastMetric_3 (d : Nat) (hd : 1 ≤ d) {S : gS} {J : gJ} (hS : Sh S)  (k1 : Int32) (k2 : Int32) (k3 : Int32) (k4 : Int32) {Q : gO → gS → gI → gJ → Prop} :
    ∀ (n : Nat) (v5 : Int32) (I : gI) (res : gI), mX6_leastMetric_3 k1 k2 k3 k4 n v5 I = some res → (∀ (O : gI), res = O → Wp RX6 cX6_leastMetric 10 (some .int) [] hF d 0 0 35 [(0, .ref 30), (1, .int k1), (2, .int k2), (4, .int k4)] [] S O J Q) → Wp RX6 cX6_leastMetric 10 (some .int) [] hF d 0 0 3 [(0, .ref 30), (1, .int k1), (2, .int k2), (3, .int k3), (4, .int k4), (5, .int v5)] [] S I J Q := by
  intro n
  induction n with
  | zero => intro v5 I res h; exact nso h
  | succ n ih =>
    intro v5 I res h kx
    rw [mX6_leastMetric_3] at h
    refine wp_iload dX6_leastMetric_3 rfl ?_
    refine wp_bipush (v := 8) dX6_leastMetric_5 (by decide) ?_
    refine wp_icmp_ge (tgt := 35) dX6_leastMetric_7 (by decide) (fun hc1 => ?_) (fun hc1 => ?_)
    · have h := ite_t hc1 h
      exact wp_pick (ks := [0, 1, 2, 4]) rfl (kx _ (sji h).symm)
    · have h := ite_f hc1 h
      refine wp_aload_n dX6_leastMetric_10 rfl rfl ?_
      refine wp_getR dX6_leastMetric_11 flX6_15 rfl (sk30 hS) (sn30 hS) (sr30_2 hS) ?_
      refine wp_iload dX6_leastMetric_14 rfl ?_
      refine wp_iload dX6_leastMetric_16 rfl ?_
      refine wp_iload_n dX6_leastMetric_18 rfl rfl ?_
      refine wp_icmp_ne (tgt := 26) dX6_leastMetric_19 (by decide) (fun hc2 => ?_) (fun hc2 => ?_)
      · have h := ite_f hc2 h
        refine wp_ldc dX6_leastMetric_26 koX6_43 ?_
        obtain ⟨hb3, h⟩ := ck_inv h
        refine wp_iast dX6_leastMetric_28 (sk32 hS) (sn32 hS) hb3 ?_
        refine wp_iinc (v := 1) (ls' := [(5, .int (v5 + 1)), (0, .ref 30), (1, .int k1), (2, .int k2), (3, .int k3), (4, .int k4)]) dX6_leastMetric_29 rfl (by decide) (Nat.le_of_ble_eq_true rfl) rfl ?_
        refine wp_goto (tgt := 3) dX6_leastMetric_32 (by decide) ?_
        exact wp_pick (ks := [1, 2, 3, 4, 5, 0]) rfl (ih _ _ _ h kx)
      · have h := ite_t hc2 h
        refine wp_iconst (v := 0) dX6_leastMetric_22 (by decide) ?_
        refine wp_goto (tgt := 28) dX6_leastMetric_23 (by decide) ?_
        obtain ⟨hb4, h⟩ := ck_inv h
        refine wp_iast dX6_leastMetric_28 (sk32 hS) (sn32 hS) hb4 ?_
        refine wp_iinc (v := 1) (ls' := [(5, .int (v5 + 1)), (0, .ref 30), (1, .int k1), (2, .int k2), (3, .int k3), (4, .int k4)]) dX6_leastMetric_29 rfl (by decide) (Nat.le_of_ble_eq_true rfl) rfl ?_
        refine wp_goto (tgt := 3) dX6_leastMetric_32 (by decide) ?_
        exact wp_pick (ks := [1, 2, 3, 4, 5, 0]) rfl (ih _ _ _ h kx)
set_option maxHeartbeats 4000000 in
set_option maxRecDepth 100000 in
theorem wX6_leastMetric_115 (d : Nat) (hd : 1 ≤ d) {S : gS} {J : gJ} (hS : Sh S)  (k1 : Int32) (k2 : Int32) (k4 : Int32) (k6 : Int32) (k7 : Int32) {Q : gO → gS → gI → gJ → Prop} :
    ∀ (n : Nat) (v5 : Int32) (v8 : Int32) (I : gI) (res : Int32 × gI), mX6_leastMetric_115 k1 k2 k4 k6 k7 n v5 v8 I = some res → (∀ (o5 : Int32) (O : gI), res = (o5, O) → Wp RX6 cX6_leastMetric 10 (some .int) [] hF d 0 0 219 [(0, .ref 30), (1, .int k1), (2, .int k2), (4, .int k4), (5, .int o5)] [] S O J Q) → Wp RX6 cX6_leastMetric 10 (some .int) [] hF d 0 0 115 [(0, .ref 30), (1, .int k1), (2, .int k2), (4, .int k4), (5, .int v5), (6, .int k6), (7, .int k7), (8, .int v8)] [] S I J Q := by
  intro n
  induction n with
  | zero => intro v5 v8 I res h; exact nso h
  | succ n ih =>
    intro v5 v8 I res h kx
    rw [mX6_leastMetric_115] at h
    refine wp_iload dX6_leastMetric_115 rfl ?_
    refine wp_aload_n dX6_leastMetric_117 rfl rfl ?_
    refine wp_getR dX6_leastMetric_118 flX6_27 rfl (sk30 hS) (sn30 hS) (sr30_0 hS) ?_
    refine wp_getI dX6_leastMetric_121 flX6_31 rfl (sk2 hS) (sn2 hS) ?_
    refine wp_icmp_ge (tgt := 219) dX6_leastMetric_124 (by decide) (fun hc15 => ?_) (fun hc15 => ?_)
    · have h := ite_t hc15 h
      exact wp_pick (ks := [0, 1, 2, 3, 4]) rfl (kx _ _ (sji h).symm)
    · have h := ite_f hc15 h
      refine wp_aload_n dX6_leastMetric_127 rfl rfl ?_
      refine wp_getR dX6_leastMetric_128 flX6_27 rfl (sk30 hS) (sn30 hS) (sr30_0 hS) ?_
      refine wp_getR dX6_leastMetric_131 flX6_53 rfl (sk2 hS) (sn2 hS) (sr2_5 hS) ?_
      refine wp_iload dX6_leastMetric_134 rfl ?_
      obtain ⟨hb16, h⟩ := ck_inv h
      refine wp_iald dX6_leastMetric_136 (sk5 hS) (sn5 hS) hb16 ?_
      refine wp_aload_n dX6_leastMetric_137 rfl rfl ?_
      refine wp_getR dX6_leastMetric_138 flX6_15 rfl (sk30 hS) (sn30 hS) (sr30_2 hS) ?_
      refine wp_iload dX6_leastMetric_141 rfl ?_
      refine wp_aload_n dX6_leastMetric_143 rfl rfl ?_
      refine wp_getR dX6_leastMetric_144 flX6_27 rfl (sk30 hS) (sn30 hS) (sr30_0 hS) ?_
      refine wp_getR dX6_leastMetric_147 flX6_40 rfl (sk2 hS) (sn2 hS) (sr2_4 hS) ?_
      refine wp_iload dX6_leastMetric_150 rfl ?_
      refine wp_iald dX6_leastMetric_152 (sk4 hS) (sn4 hS) hb16 ?_
      refine wp_iadd dX6_leastMetric_153 ?_
      obtain ⟨hb17, h⟩ := ck_inv h
      refine wp_iald dX6_leastMetric_154 (sk32 hS) (sn32 hS) hb17 ?_
      refine wp_iadd dX6_leastMetric_155 ?_
      obtain ⟨x18, hx19, h⟩ := nm_inv h
      refine wp_topi hx19 ?_
      refine wp_istore (ls' := [(9, .int x18), (0, .ref 30), (1, .int k1), (2, .int k2), (4, .int k4), (5, .int v5), (6, .int k6), (7, .int k7), (8, .int v8)]) dX6_leastMetric_156 (Nat.le_of_ble_eq_true rfl) rfl ?_
      refine wp_iload_n dX6_leastMetric_158 rfl rfl ?_
      refine wp_iload dX6_leastMetric_159 rfl ?_
      refine wp_iushr dX6_leastMetric_161 ?_
      refine wp_iconst (v := 1) dX6_leastMetric_162 (by decide) ?_
      refine wp_iand dX6_leastMetric_163 ?_
      refine wp_if_eq (tgt := 213) dX6_leastMetric_164 (by decide) (fun hc20 => ?_) (fun hc20 => ?_)
      · have h := ite_t hc20 h
        refine wp_iinc (v := 1) (ls' := [(8, .int (v8 + 1)), (9, .int x18), (0, .ref 30), (1, .int k1), (2, .int k2), (4, .int k4), (5, .int v5), (6, .int k6), (7, .int k7)]) dX6_leastMetric_213 rfl (by decide) (Nat.le_of_ble_eq_true rfl) rfl ?_
        refine wp_goto (tgt := 115) dX6_leastMetric_216 (by decide) ?_
        exact wp_pick (ks := [2, 3, 4, 5, 6, 7, 8, 0]) rfl (ih _ _ _ _ h kx)
      · have h := ite_f hc20 h
        refine wp_iload dX6_leastMetric_167 rfl ?_
        refine wp_aload_n dX6_leastMetric_169 rfl rfl ?_
        refine wp_getR dX6_leastMetric_170 flX6_15 rfl (sk30 hS) (sn30 hS) (sr30_2 hS) ?_
        refine wp_iload dX6_leastMetric_173 rfl ?_
        refine wp_aload_n dX6_leastMetric_175 rfl rfl ?_
        refine wp_getR dX6_leastMetric_176 flX6_27 rfl (sk30 hS) (sn30 hS) (sr30_0 hS) ?_
        refine wp_getR dX6_leastMetric_179 flX6_37 rfl (sk2 hS) (sn2 hS) (sr2_3 hS) ?_
        refine wp_iload dX6_leastMetric_182 rfl ?_
        refine wp_iald dX6_leastMetric_184 (sk3 hS) (sn3 hS) hb16 ?_
        refine wp_iadd dX6_leastMetric_185 ?_
        obtain ⟨hb21, h⟩ := ck_inv h
        refine wp_iald dX6_leastMetric_186 (sk32 hS) (sn32 hS) hb21 ?_
        refine wp_icmp_ge (tgt := 213) dX6_leastMetric_187 (by decide) (fun hc22 => ?_) (fun hc22 => ?_)
        · have h := ite_t hc22 h
          refine wp_iinc (v := 1) (ls' := [(8, .int (v8 + 1)), (9, .int x18), (0, .ref 30), (1, .int k1), (2, .int k2), (4, .int k4), (5, .int v5), (6, .int k6), (7, .int k7)]) dX6_leastMetric_213 rfl (by decide) (Nat.le_of_ble_eq_true rfl) rfl ?_
          refine wp_goto (tgt := 115) dX6_leastMetric_216 (by decide) ?_
          exact wp_pick (ks := [2, 3, 4, 5, 6, 7, 8, 0]) rfl (ih _ _ _ _ h kx)
        · have h := ite_f hc22 h
          refine wp_aload_n dX6_leastMetric_190 rfl rfl ?_
          refine wp_getR dX6_leastMetric_191 flX6_15 rfl (sk30 hS) (sn30 hS) (sr30_2 hS) ?_
          refine wp_iload dX6_leastMetric_194 rfl ?_
          refine wp_aload_n dX6_leastMetric_196 rfl rfl ?_
          refine wp_getR dX6_leastMetric_197 flX6_27 rfl (sk30 hS) (sn30 hS) (sr30_0 hS) ?_
          refine wp_getR dX6_leastMetric_200 flX6_37 rfl (sk2 hS) (sn2 hS) (sr2_3 hS) ?_
          refine wp_iload dX6_leastMetric_203 rfl ?_
          refine wp_iald dX6_leastMetric_205 (sk3 hS) (sn3 hS) hb16 ?_
          refine wp_iadd dX6_leastMetric_206 ?_
          refine wp_iload dX6_leastMetric_207 rfl ?_
          refine wp_iast dX6_leastMetric_209 (sk32 hS) (sn32 hS) hb21 ?_
          refine wp_iconst (v := 1) dX6_leastMetric_210 (by decide) ?_
          refine wp_istore (ls' := [(5, .int 1), (9, .int x18), (0, .ref 30), (1, .int k1), (2, .int k2), (4, .int k4), (6, .int k6), (7, .int k7), (8, .int v8)]) dX6_leastMetric_211 (Nat.le_of_ble_eq_true rfl) rfl ?_
          refine wp_iinc (v := 1) (ls' := [(8, .int (v8 + 1)), (5, .int 1), (9, .int x18), (0, .ref 30), (1, .int k1), (2, .int k2), (4, .int k4), (6, .int k6), (7, .int k7)]) dX6_leastMetric_213 rfl (by decide) (Nat.le_of_ble_eq_true rfl) rfl ?_
          refine wp_goto (tgt := 115) dX6_leastMetric_216 (by decide) ?_
          exact wp_pick (ks := [3, 4, 5, 6, 1, 7, 8, 0]) rfl (ih _ _ _ _ h kx)
set_option maxHeartbeats 4000000 in
set_option maxRecDepth 100000 in
theorem wX6_leastMetric_43 (N : Nat) (d : Nat) (hd : 1 ≤ d) {S : gS} {J : gJ} (hS : Sh S)  (k1 : Int32) (k2 : Int32) (k4 : Int32) {Q : gO → gS → gI → gJ → Prop} :
    ∀ (n : Nat) (v5 : Int32) (I : gI) (res : gI), mX6_leastMetric_43 N k1 k2 k4 n v5 I = some res → (∀ (O : gI), res = O → Wp RX6 cX6_leastMetric 10 (some .int) [] hF d 0 0 222 [(0, .ref 30), (2, .int k2)] [] S O J Q) → Wp RX6 cX6_leastMetric 10 (some .int) [] hF d 0 0 43 [(0, .ref 30), (1, .int k1), (2, .int k2), (4, .int k4), (5, .int v5)] [] S I J Q := by
  intro n
  induction n with
  | zero => intro v5 I res h; exact nso h
  | succ n ih =>
    intro v5 I res h kx
    rw [mX6_leastMetric_43] at h
    refine wp_iload dX6_leastMetric_43 rfl ?_
    refine wp_if_eq (tgt := 222) dX6_leastMetric_45 (by decide) (fun hc6 => ?_) (fun hc6 => ?_)
    · have h := ite_t hc6 h
      exact wp_pick (ks := [0, 2]) rfl (kx _ (sji h).symm)
    · have h := ite_f hc6 h
      refine wp_aload_n dX6_leastMetric_48 rfl rfl ?_
      refine wp_getI dX6_leastMetric_49 flX6_44 rfl (sk30 hS) (sn30 hS) ?_
      refine wp_iload dX6_leastMetric_52 rfl ?_
      refine wp_icmp_ge (tgt := 222) dX6_leastMetric_54 (by decide) (fun hc7 => ?_) (fun hc7 => ?_)
      · have h := ite_t hc7 h
        exact wp_pick (ks := [0, 2]) rfl (kx _ (sji h).symm)
      · have h := ite_f hc7 h
        refine wp_aload_n dX6_leastMetric_57 rfl rfl ?_
        refine wp_getI dX6_leastMetric_58 flX6_44 rfl (sk30 hS) (sn30 hS) ?_
        refine wp_bipush (v := 7) dX6_leastMetric_61 (by decide) ?_
        refine wp_icmp_ge (tgt := 222) dX6_leastMetric_63 (by decide) (fun hc8 => ?_) (fun hc8 => ?_)
        · have h := ite_t hc8 h
          exact wp_pick (ks := [0, 2]) rfl (kx _ (sji h).symm)
        · have h := ite_f hc8 h
          refine wp_aload_n dX6_leastMetric_66 rfl rfl ?_
          refine wp_getI dX6_leastMetric_67 flX6_44 rfl (sk30 hS) (sn30 hS) ?_
          refine wp_bipush (v := 8) dX6_leastMetric_70 (by decide) ?_
          refine wp_imul dX6_leastMetric_72 ?_
          refine wp_istore (ls' := [(6, .int ((I 30 6) * 8)), (0, .ref 30), (1, .int k1), (2, .int k2), (4, .int k4), (5, .int v5)]) dX6_leastMetric_73 (Nat.le_of_ble_eq_true rfl) rfl ?_
          refine wp_iload dX6_leastMetric_75 rfl ?_
          refine wp_bipush (v := 8) dX6_leastMetric_77 (by decide) ?_
          refine wp_iadd dX6_leastMetric_79 ?_
          refine wp_istore (ls' := [(7, .int (((I 30 6) * 8) + 8)), (6, .int ((I 30 6) * 8)), (0, .ref 30), (1, .int k1), (2, .int k2), (4, .int k4), (5, .int v5)]) dX6_leastMetric_80 (Nat.le_of_ble_eq_true rfl) rfl ?_
          refine wp_aload_n dX6_leastMetric_82 rfl rfl ?_
          refine wp_dup dX6_leastMetric_83 rfl ?_
          refine wp_getI dX6_leastMetric_84 flX6_44 rfl (sk30 hS) (sn30 hS) ?_
          refine wp_iconst (v := 1) dX6_leastMetric_87 (by decide) ?_
          refine wp_iadd dX6_leastMetric_88 ?_
          refine wp_putI dX6_leastMetric_89 (Or.inl fpX6_44) rfl ⟨rfl, rfl⟩ (sk30 hS) (sn30 hS) ?_
          refine wp_iconst (v := 0) dX6_leastMetric_92 (by decide) ?_
          refine wp_istore (ls' := [(5, .int 0), (7, .int (((I 30 6) * 8) + 8)), (6, .int ((I 30 6) * 8)), (0, .ref 30), (1, .int k1), (2, .int k2), (4, .int k4)]) dX6_leastMetric_93 (Nat.le_of_ble_eq_true rfl) rfl ?_
          refine wp_aload_n dX6_leastMetric_95 rfl rfl ?_
          refine wp_getR dX6_leastMetric_96 flX6_15 rfl (sk30 hS) (sn30 hS) (sr30_2 hS) ?_
          refine wp_iload dX6_leastMetric_99 rfl ?_
          refine wp_aload_n dX6_leastMetric_101 rfl rfl ?_
          refine wp_getR dX6_leastMetric_102 flX6_15 rfl (sk30 hS) (sn30 hS) (sr30_2 hS) ?_
          refine wp_iload dX6_leastMetric_105 rfl ?_
          refine wp_bipush (v := 8) dX6_leastMetric_107 (by decide) ?_
          obtain ⟨hz9, h⟩ := nn_inv h
          obtain ⟨hz10, h⟩ := nn_inv h
          obtain ⟨hz11, h⟩ := lt9_inv h
          obtain ⟨hz12, h⟩ := lt9_inv h
          refine wp_acopy dX6_leastMetric_109 mlX6_47 (sk32 hS) (sn32 hS) (sk32 hS) (sn32 hS) sy_1 sy_2 sy_3 (Nat.le_trans (by decide) hd) hz9 hz10 (by decide) hz11 hz12 (by decide) ?_
          obtain ⟨I13, hx14, h⟩ := nm_inv h
          refine wp_nmI hx14 ?_
          refine wp_iconst (v := 0) dX6_leastMetric_112 (by decide) ?_
          refine wp_istore (ls' := [(8, .int 0), (5, .int 0), (7, .int (((I 30 6) * 8) + 8)), (6, .int ((I 30 6) * 8)), (0, .ref 30), (1, .int k1), (2, .int k2), (4, .int k4)]) dX6_leastMetric_113 (Nat.le_of_ble_eq_true rfl) rfl ?_
          obtain ⟨⟨y23, I24⟩, hL925, h⟩ := obi h
          refine wp_pick (ks := [4, 5, 6, 7, 1, 3, 2, 0]) rfl (wX6_leastMetric_115 d hd hS  k1 k2 k4 ((I 30 6) * 8) (((I 30 6) * 8) + 8) N 0 0 I13 _ hL925 (fun _ _ e26 => ?_))
          cases e26
          refine wp_goto (tgt := 43) dX6_leastMetric_219 (by decide) ?_
          exact wp_pick (ks := [0, 1, 2, 3, 4]) rfl (ih _ _ _ h kx)
set_option maxHeartbeats 4000000 in
set_option maxRecDepth 100000 in
theorem ct_X6_leastMetric (N : Nat) (d : Nat) (hd : 1 ≤ d) {S : gS} {J : gJ} (hS : Sh S)  {a2 : Int32} {a3 : Int32} {a4 : Int32} {a5 : Int32} {I : gI} {r : Int32 × gI} (h : mX6_leastMetric N a2 a3 a4 a5 I = some r) : Ct yX6_leastMetric (wsY yX6_leastMetric cX6_leastMetric 10 (some .int)) d 0 0 [.ref 30, .int a2, .int a3, .int a4, .int a5] S I J (qE (.inl (some (.int r.1))) S r.2 J) := by
  refine Ct.of hF (fun _ _ _ _ _ => trivial) (by decide +kernel) (Nat.le_of_ble_eq_true rfl) ⟨Or.inl (sn30 hS), trivial, trivial, trivial, trivial, trivial⟩ ?_
  show Wp RX6 cX6_leastMetric 10 (some .int) [] hF d 0 0 0 [(0, .ref 30), (1, .int a2), (2, .int a3), (3, .int a4), (4, .int a5)] [] S I J _
  unfold mX6_leastMetric at h
  refine wp_iconst (v := 0) dX6_leastMetric_0 (by decide) ?_
  refine wp_istore (ls' := [(5, .int 0), (0, .ref 30), (1, .int a2), (2, .int a3), (3, .int a4), (4, .int a5)]) dX6_leastMetric_1 (Nat.le_of_ble_eq_true rfl) rfl ?_
  obtain ⟨I5, hL931, h⟩ := obi h
  refine wp_pick (ks := [1, 2, 3, 4, 5, 0]) rfl (wX6_leastMetric_3 d hd hS  a2 a3 a4 a5 N 0 I _ hL931 (fun _ e32 => ?_))
  cases e32
  refine wp_aload_n dX6_leastMetric_35 rfl rfl ?_
  refine wp_iconst (v := 0) dX6_leastMetric_36 (by decide) ?_
  refine wp_putI dX6_leastMetric_37 (Or.inl fpX6_44) rfl ⟨rfl, rfl⟩ (sk30 hS) (sn30 hS) ?_
  refine wp_iconst (v := 1) dX6_leastMetric_40 (by decide) ?_
  refine wp_istore (ls' := [(5, .int 1), (0, .ref 30), (1, .int a2), (2, .int a3), (4, .int a5)]) dX6_leastMetric_41 (Nat.le_of_ble_eq_true rfl) rfl ?_
  obtain ⟨I27, hL929, h⟩ := obi h
  refine wp_pick (ks := [1, 2, 3, 4, 0]) rfl (wX6_leastMetric_43 N d hd hS  a2 a3 a5 N 1 (upd2 I5 30 6 0) _ hL929 (fun _ e30 => ?_))
  cases e30
  refine wp_aload_n dX6_leastMetric_222 rfl rfl ?_
  refine wp_getR dX6_leastMetric_223 flX6_15 rfl (sk30 hS) (sn30 hS) (sr30_2 hS) ?_
  refine wp_aload_n dX6_leastMetric_226 rfl rfl ?_
  refine wp_getI dX6_leastMetric_227 flX6_44 rfl (sk30 hS) (sn30 hS) ?_
  refine wp_bipush (v := 8) dX6_leastMetric_230 (by decide) ?_
  refine wp_imul dX6_leastMetric_232 ?_
  refine wp_iload_n dX6_leastMetric_233 rfl rfl ?_
  refine wp_iadd dX6_leastMetric_234 ?_
  obtain ⟨hb28, h⟩ := ck_inv h
  refine wp_iald dX6_leastMetric_235 (sk32 hS) (sn32 hS) hb28 ?_
  exact wp_iret dX6_leastMetric_236 rfl (by obtain rfl := sji h; exact ⟨rfl, rfl, rfl, rfl⟩)
def mX2_leastMetric (N : Nat) (u1 : Nat) (a2 : Int32) (I : gI) : Option (Int32 × gI) := Option.bind (mX2_openTo N u1 a2 I) (fun r1 => ck a2 9 (Option.bind (mX6_leastMetric N r1 (I 8 a2.toNatClampNeg) (I 9 a2.toNatClampNeg) (I 14 a2.toNatClampNeg) I) (fun (r4, I5) => some (r4, I5))))
set_option maxHeartbeats 4000000 in
set_option maxRecDepth 100000 in
theorem ct_X2_leastMetric (N : Nat) (d : Nat) (hd : 2 ≤ d) {S : gS} {J : gJ} (hS : Sh S) {t1 : Nat} {u1 : Nat} (hL1 : IsLe S t1 u1) {a2 : Int32} {I : gI} {r : Int32 × gI} (h : mX2_leastMetric N u1 a2 I = some r) : Ct yX2_leastMetric (wsY yX2_leastMetric cX2_leastMetric 2 (some .int)) d 0 0 [.ref t1, .int a2] S I J (qE (.inl (some (.int r.1))) S r.2 J) := by
  refine Ct.of hF (fun _ _ _ _ _ => trivial) (by decide +kernel) (Nat.le_of_ble_eq_true rfl) ⟨Or.inl hL1.1.2.1, trivial, trivial⟩ ?_
  show Wp RX2 cX2_leastMetric 2 (some .int) [] hF d 0 0 0 [(0, .ref t1), (1, .int a2)] [] S I J _
  unfold mX2_leastMetric at h
  refine wp_aload_n dX2_leastMetric_0 rfl rfl ?_
  refine wp_getR dX2_leastMetric_1 flX2_15 rfl hL1.1.1 hL1.1.2.1 hL1.1.2.2.2.1 ?_
  refine wp_aload_n dX2_leastMetric_4 rfl rfl ?_
  refine wp_iload_n dX2_leastMetric_5 rfl rfl ?_
  obtain ⟨r1, hF2, h⟩ := obi h
  refine wp_callVi (ci := 2) (As := [.int a2]) dX2_leastMetric_6 lbX2_openTo mlX2_75 imX2_openTo seX2_openTo vc2 (ct_X2_openTo N 0 (Nat.le_refl _) hS hL1 hF2) rfl rfl (Nat.le_trans (by decide) hd) hL1.1.1 hL1.1.2.1 (Nat.le_of_ble_eq_true rfl) (fun _ => ?_)
  refine wp_aload_n dX2_leastMetric_9 rfl rfl ?_
  refine wp_getR dX2_leastMetric_10 flX2_9 rfl hL1.1.1 hL1.1.2.1 hL1.1.2.2.1 ?_
  refine wp_getR dX2_leastMetric_13 flX2_78 rfl (sk2 hS) (sn2 hS) (sr2_8 hS) ?_
  refine wp_iload_n dX2_leastMetric_16 rfl rfl ?_
  obtain ⟨hb3, h⟩ := ck_inv h
  refine wp_iald dX2_leastMetric_17 (sk8 hS) (sn8 hS) hb3 ?_
  refine wp_aload_n dX2_leastMetric_18 rfl rfl ?_
  refine wp_getR dX2_leastMetric_19 flX2_9 rfl hL1.1.1 hL1.1.2.1 hL1.1.2.2.1 ?_
  refine wp_getR dX2_leastMetric_22 flX2_81 rfl (sk2 hS) (sn2 hS) (sr2_9 hS) ?_
  refine wp_iload_n dX2_leastMetric_25 rfl rfl ?_
  refine wp_iald dX2_leastMetric_26 (sk9 hS) (sn9 hS) hb3 ?_
  refine wp_aload_n dX2_leastMetric_27 rfl rfl ?_
  refine wp_getR dX2_leastMetric_28 flX2_9 rfl hL1.1.1 hL1.1.2.1 hL1.1.2.2.1 ?_
  refine wp_getR dX2_leastMetric_31 flX2_84 rfl (sk2 hS) (sn2 hS) (sr2_14 hS) ?_
  refine wp_iload_n dX2_leastMetric_34 rfl rfl ?_
  refine wp_iald dX2_leastMetric_35 (sk14 hS) (sn14 hS) hb3 ?_
  obtain ⟨⟨r4, I5⟩, hF6, h⟩ := obi h
  refine wp_callVNi (ci := 6) (As := [.int r1, .int (I 8 a2.toNatClampNeg), .int (I 9 a2.toNatClampNeg), .int (I 14 a2.toNatClampNeg)]) dX2_leastMetric_36 lbX6_leastMetric mnX2_87 imX6_leastMetric seX6_leastMetric vc6 (ct_X6_leastMetric N 1 (Nat.le_refl _) hS  hF6) rfl rfl (Nat.le_trans (by decide) hd) (sk30 hS) (sn30 hS) (Nat.le_of_ble_eq_true rfl) (fun _ => ?_)
  exact wp_iret dX2_leastMetric_39 rfl (by obtain rfl := sji h; exact ⟨rfl, rfl, rfl, rfl⟩)
def mX2_fitting_13 (N : Nat) (u1 : Nat) (k1 : Int32) (k2 : Int32) (k3 : Int32) (k4 : Int32) (I : gI) : Nat → Int32 → Int32 → Option (Int32)
  | 0, _, _ => none
  | n + 1, v5, v6 => if (I 2 1) ≤ v6 then (some v5) else (if ((ushr k4 v6) &&& 1) = 0 then (mX2_fitting_13 N u1 k1 k2 k3 k4 I n v5 (v6 + 1)) else (Option.bind (mX2_poolWithout N u1 k1 v6 k3 I) (fun r5 => if r5 < k2 then (mX2_fitting_13 N u1 k1 k2 k3 k4 I n v5 (v6 + 1)) else (mX2_fitting_13 N u1 k1 k2 k3 k4 I n (v5 ||| ((1 : Int32) <<< (v6 &&& 31))) (v6 + 1)))))
def mX2_fitting (N : Nat) (u1 : Nat) (a2 : Int32) (a3 : Int32) (a4 : Int32) (I : gI) : Option (Int32) := Option.bind (mX2_openTo N u1 a2 I) (fun r1 => Option.bind (mX2_fitting_13 N u1 a2 a3 a4 r1 I N 0 0) (fun y8 => some y8))
set_option maxHeartbeats 4000000 in
set_option maxRecDepth 100000 in
theorem wX2_fitting_13 (N : Nat) (d : Nat) (hd : 1 ≤ d) {S : gS} {J : gJ} (hS : Sh S) (t1 : Nat) (u1 : Nat) (hL1 : IsLe S t1 u1) (k1 : Int32) (k2 : Int32) (k3 : Int32) (k4 : Int32) (I : gI) {Q : gO → gS → gI → gJ → Prop} :
    ∀ (n : Nat) (v5 : Int32) (v6 : Int32) (res : Int32), mX2_fitting_13 N u1 k1 k2 k3 k4 I n v5 v6 = some res → (∀ (o5 : Int32), res = o5 → Wp RX2 cX2_fitting 7 (some .int) [] hF d 0 0 62 [(5, .int o5)] [] S I J Q) → Wp RX2 cX2_fitting 7 (some .int) [] hF d 0 0 13 [(0, .ref t1), (1, .int k1), (2, .int k2), (3, .int k3), (4, .int k4), (5, .int v5), (6, .int v6)] [] S I J Q := by
  intro n
  induction n with
  | zero => intro v5 v6 res h; exact nso h
  | succ n ih =>
    intro v5 v6 res h kx
    rw [mX2_fitting_13] at h
    refine wp_iload dX2_fitting_13 rfl ?_
    refine wp_aload_n dX2_fitting_15 rfl rfl ?_
    refine wp_getR dX2_fitting_16 flX2_9 rfl hL1.1.1 hL1.1.2.1 hL1.1.2.2.1 ?_
    refine wp_getI dX2_fitting_19 flX2_48 rfl (sk2 hS) (sn2 hS) ?_
    refine wp_icmp_ge (tgt := 62) dX2_fitting_22 (by decide) (fun hc3 => ?_) (fun hc3 => ?_)
    · have h := ite_t hc3 h
      exact wp_pick (ks := [5]) rfl (kx _ (sji h).symm)
    · have h := ite_f hc3 h
      refine wp_iload dX2_fitting_25 rfl ?_
      refine wp_iload dX2_fitting_27 rfl ?_
      refine wp_iushr dX2_fitting_29 ?_
      refine wp_iconst (v := 1) dX2_fitting_30 (by decide) ?_
      refine wp_iand dX2_fitting_31 ?_
      refine wp_if_eq (tgt := 56) dX2_fitting_32 (by decide) (fun hc4 => ?_) (fun hc4 => ?_)
      · have h := ite_t hc4 h
        refine wp_iinc (v := 1) (ls' := [(6, .int (v6 + 1)), (0, .ref t1), (1, .int k1), (2, .int k2), (3, .int k3), (4, .int k4), (5, .int v5)]) dX2_fitting_56 rfl (by decide) (Nat.le_of_ble_eq_true rfl) rfl ?_
        refine wp_goto (tgt := 13) dX2_fitting_59 (by decide) ?_
        exact wp_pick (ks := [1, 2, 3, 4, 5, 6, 0]) rfl (ih _ _ _ h kx)
      · have h := ite_f hc4 h
        refine wp_aload_n dX2_fitting_35 rfl rfl ?_
        refine wp_iload_n dX2_fitting_36 rfl rfl ?_
        refine wp_iload dX2_fitting_37 rfl ?_
        refine wp_iload_n dX2_fitting_39 rfl rfl ?_
        obtain ⟨r5, hF6, h⟩ := obi h
        refine wp_callVi (ci := 2) (As := [.int k1, .int v6, .int k3]) dX2_fitting_40 lbX2_poolWithout mlX2_38 imX2_poolWithout seX2_poolWithout vc2 (ct_X2_poolWithout N 0 (Nat.le_refl _) hS hL1 hF6) rfl rfl (Nat.le_trans (by decide) hd) hL1.1.1 hL1.1.2.1 (Nat.le_of_ble_eq_true rfl) (fun _ => ?_)
        refine wp_iload_n dX2_fitting_43 rfl rfl ?_
        refine wp_icmp_lt (tgt := 56) dX2_fitting_44 (by decide) (fun hc7 => ?_) (fun hc7 => ?_)
        · have h := ite_t hc7 h
          refine wp_iinc (v := 1) (ls' := [(6, .int (v6 + 1)), (0, .ref t1), (1, .int k1), (2, .int k2), (3, .int k3), (4, .int k4), (5, .int v5)]) dX2_fitting_56 rfl (by decide) (Nat.le_of_ble_eq_true rfl) rfl ?_
          refine wp_goto (tgt := 13) dX2_fitting_59 (by decide) ?_
          exact wp_pick (ks := [1, 2, 3, 4, 5, 6, 0]) rfl (ih _ _ _ h kx)
        · have h := ite_f hc7 h
          refine wp_iload dX2_fitting_47 rfl ?_
          refine wp_iconst (v := 1) dX2_fitting_49 (by decide) ?_
          refine wp_iload dX2_fitting_50 rfl ?_
          refine wp_ishl dX2_fitting_52 ?_
          refine wp_ior dX2_fitting_53 ?_
          refine wp_istore (ls' := [(5, .int (v5 ||| ((1 : Int32) <<< (v6 &&& 31)))), (0, .ref t1), (1, .int k1), (2, .int k2), (3, .int k3), (4, .int k4), (6, .int v6)]) dX2_fitting_54 (Nat.le_of_ble_eq_true rfl) rfl ?_
          refine wp_iinc (v := 1) (ls' := [(6, .int (v6 + 1)), (5, .int (v5 ||| ((1 : Int32) <<< (v6 &&& 31)))), (0, .ref t1), (1, .int k1), (2, .int k2), (3, .int k3), (4, .int k4)]) dX2_fitting_56 rfl (by decide) (Nat.le_of_ble_eq_true rfl) rfl ?_
          refine wp_goto (tgt := 13) dX2_fitting_59 (by decide) ?_
          exact wp_pick (ks := [2, 3, 4, 5, 6, 1, 0]) rfl (ih _ _ _ h kx)
set_option maxHeartbeats 4000000 in
set_option maxRecDepth 100000 in
theorem ct_X2_fitting (N : Nat) (d : Nat) (hd : 1 ≤ d) {S : gS} {J : gJ} (hS : Sh S) {t1 : Nat} {u1 : Nat} (hL1 : IsLe S t1 u1) {a2 : Int32} {a3 : Int32} {a4 : Int32} {I : gI} {r : Int32} (h : mX2_fitting N u1 a2 a3 a4 I = some r) : Ct yX2_fitting (wsY yX2_fitting cX2_fitting 7 (some .int)) d 0 0 [.ref t1, .int a2, .int a3, .int a4] S I J (qE (.inl (some (.int r))) S I J) := by
  refine Ct.of hF (fun _ _ _ _ _ => trivial) (by decide +kernel) (Nat.le_of_ble_eq_true rfl) ⟨Or.inl hL1.1.2.1, trivial, trivial, trivial, trivial⟩ ?_
  show Wp RX2 cX2_fitting 7 (some .int) [] hF d 0 0 0 [(0, .ref t1), (1, .int a2), (2, .int a3), (3, .int a4)] [] S I J _
  unfold mX2_fitting at h
  refine wp_aload_n dX2_fitting_0 rfl rfl ?_
  refine wp_iload_n dX2_fitting_1 rfl rfl ?_
  obtain ⟨r1, hF2, h⟩ := obi h
  refine wp_callVi (ci := 2) (As := [.int a2]) dX2_fitting_2 lbX2_openTo mlX2_75 imX2_openTo seX2_openTo vc2 (ct_X2_openTo N 0 (Nat.le_refl _) hS hL1 hF2) rfl rfl (Nat.le_trans (by decide) hd) hL1.1.1 hL1.1.2.1 (Nat.le_of_ble_eq_true rfl) (fun _ => ?_)
  refine wp_istore (ls' := [(4, .int r1), (0, .ref t1), (1, .int a2), (2, .int a3), (3, .int a4)]) dX2_fitting_5 (Nat.le_of_ble_eq_true rfl) rfl ?_
  refine wp_iconst (v := 0) dX2_fitting_7 (by decide) ?_
  refine wp_istore (ls' := [(5, .int 0), (4, .int r1), (0, .ref t1), (1, .int a2), (2, .int a3), (3, .int a4)]) dX2_fitting_8 (Nat.le_of_ble_eq_true rfl) rfl ?_
  refine wp_iconst (v := 0) dX2_fitting_10 (by decide) ?_
  refine wp_istore (ls' := [(6, .int 0), (5, .int 0), (4, .int r1), (0, .ref t1), (1, .int a2), (2, .int a3), (3, .int a4)]) dX2_fitting_11 (Nat.le_of_ble_eq_true rfl) rfl ?_
  obtain ⟨y8, hL99, h⟩ := obi h
  refine wp_pick (ks := [3, 4, 5, 6, 2, 1, 0]) rfl (wX2_fitting_13 N d hd hS t1 u1 hL1 a2 a3 a4 r1 I N 0 0 _ hL99 (fun _ e10 => ?_))
  cases e10
  refine wp_iload dX2_fitting_62 rfl ?_
  exact wp_iret dX2_fitting_64 rfl (by obtain rfl := sji h; exact ⟨rfl, rfl, rfl, rfl⟩)
def mX6_spanBestWays_26 (k1 : Int32) (k2 : Int32) (k3 : Int32) (k4 : Int32) (k5 : Int32) : Nat → Int32 → gI → Option (gI)
  | 0, _, _ => none
  | n + 1, v6, I => if 8 ≤ v6 then (some I) else (if v6 = k2 then (ck (k5 + v6) 64 (mX6_spanBestWays_26 k1 k2 k3 k4 k5 n (v6 + 1) (upd2 I 33 (k5 + v6).toNatClampNeg 1000000))) else (ck (k5 + v6) 64 (mX6_spanBestWays_26 k1 k2 k3 k4 k5 n (v6 + 1) (upd2 I 33 (k5 + v6).toNatClampNeg (-1000000)))))
def mX6_spanBestWays_65 (k1 : Int32) (k2 : Int32) (k3 : Int32) (k4 : Int32) (k5 : Int32) : Nat → Int32 → gI → Option (gI)
  | 0, _, _ => none
  | n + 1, v6, I => if (I 2 1) ≤ v6 then (some I) else (if k4 ≤ 0 then (some I) else (ck v6 16 (ck (k5 + (I 3 v6.toNatClampNeg)) 64 (Option.bind (if 1000000 ≤ (I 32 (k5 + (I 3 v6.toNatClampNeg)).toNatClampNeg) then (some 0) else (ck ((k5 - 8) + (I 4 v6.toNatClampNeg)) 64 (nm ((I 5 v6.toNatClampNeg) + (I 32 ((k5 - 8) + (I 4 v6.toNatClampNeg)).toNatClampNeg)) (fun x15 => if (I 32 (k5 + (I 3 v6.toNatClampNeg)).toNatClampNeg) = x15 then (some 1) else (some 0)))) : Option (Int32)) (fun x12 => if x12 = 0 then (mX6_spanBestWays_65 k1 k2 k3 k4 k5 n (v6 + 1) I) else (if ((ushr k1 v6) &&& 1) = 0 then (mX6_spanBestWays_65 k1 k2 k3 k4 k5 n (v6 + 1) I) else (ck ((k5 - 8) + (I 4 v6.toNatClampNeg)) 64 (nm (if (I 33 ((k5 - 8) + (I 4 v6.toNatClampNeg)).toNatClampNeg) < (I 31 v6.toNatClampNeg) then (I 33 ((k5 - 8) + (I 4 v6.toNatClampNeg)).toNatClampNeg) else (I 31 v6.toNatClampNeg)) (fun x21 => nm (if (I 33 (k5 + (I 3 v6.toNatClampNeg)).toNatClampNeg) < x21 then x21 else (I 33 (k5 + (I 3 v6.toNatClampNeg)).toNatClampNeg)) (fun x23 => mX6_spanBestWays_65 k1 k2 k3 k4 k5 n (v6 + 1) (upd2 I 33 (k5 + (I 3 v6.toNatClampNeg)).toNatClampNeg x23)))))))))))
def mX6_spanBestWays_3 (N : Nat) (k1 : Int32) (k2 : Int32) (k3 : Int32) : Nat → Int32 → gI → Option (gI)
  | 0, _, _ => none
  | n + 1, v4, I => if k3 < v4 then (some I) else (if 7 < v4 then (some I) else (Option.bind (mX6_spanBestWays_26 k1 k2 k3 v4 (v4 * 8) N 0 I) (fun I7 => Option.bind (mX6_spanBestWays_65 k1 k2 k3 v4 (v4 * 8) N 0 I7) (fun I26 => mX6_spanBestWays_3 N k1 k2 k3 n (v4 + 1) I26))))
def mX6_spanBestWays (N : Nat) (a2 : Int32) (a3 : Int32) (a4 : Int32) (I : gI) : Option (gI) := Option.bind (mX6_spanBestWays_3 N a2 a3 a4 N 0 I) (fun I31 => some I31)
set_option maxHeartbeats 4000000 in
set_option maxRecDepth 100000 in
theorem wX6_spanBestWays_26 (d : Nat) (hd : 1 ≤ d) {S : gS} {J : gJ} (hS : Sh S)  (k1 : Int32) (k2 : Int32) (k3 : Int32) (k4 : Int32) (k5 : Int32) {Q : gO → gS → gI → gJ → Prop} :
    ∀ (n : Nat) (v6 : Int32) (I : gI) (res : gI), mX6_spanBestWays_26 k1 k2 k3 k4 k5 n v6 I = some res → (∀ (O : gI), res = O → Wp RX6 cX6_spanBestWays 10 none [] hF d 0 0 62 [(0, .ref 30), (1, .int k1), (2, .int k2), (3, .int k3), (4, .int k4), (5, .int k5)] [] S O J Q) → Wp RX6 cX6_spanBestWays 10 none [] hF d 0 0 26 [(0, .ref 30), (1, .int k1), (2, .int k2), (3, .int k3), (4, .int k4), (5, .int k5), (6, .int v6)] [] S I J Q := by
  intro n
  induction n with
  | zero => intro v6 I res h; exact nso h
  | succ n ih =>
    intro v6 I res h kx
    rw [mX6_spanBestWays_26] at h
    refine wp_iload dX6_spanBestWays_26 rfl ?_
    refine wp_bipush (v := 8) dX6_spanBestWays_28 (by decide) ?_
    refine wp_icmp_ge (tgt := 62) dX6_spanBestWays_30 (by decide) (fun hc3 => ?_) (fun hc3 => ?_)
    · have h := ite_t hc3 h
      exact wp_pick (ks := [0, 1, 2, 3, 4, 5]) rfl (kx _ (sji h).symm)
    · have h := ite_f hc3 h
      refine wp_aload_n dX6_spanBestWays_33 rfl rfl ?_
      refine wp_getR dX6_spanBestWays_34 flX6_18 rfl (sk30 hS) (sn30 hS) (sr30_3 hS) ?_
      refine wp_iload dX6_spanBestWays_37 rfl ?_
      refine wp_iload dX6_spanBestWays_39 rfl ?_
      refine wp_iadd dX6_spanBestWays_41 ?_
      refine wp_iload dX6_spanBestWays_42 rfl ?_
      refine wp_iload_n dX6_spanBestWays_44 rfl rfl ?_
      refine wp_icmp_ne (tgt := 53) dX6_spanBestWays_45 (by decide) (fun hc4 => ?_) (fun hc4 => ?_)
      · have h := ite_f hc4 h
        refine wp_ldc dX6_spanBestWays_53 koX6_67 ?_
        obtain ⟨hb5, h⟩ := ck_inv h
        refine wp_iast dX6_spanBestWays_55 (sk33 hS) (sn33 hS) hb5 ?_
        refine wp_iinc (v := 1) (ls' := [(6, .int (v6 + 1)), (0, .ref 30), (1, .int k1), (2, .int k2), (3, .int k3), (4, .int k4), (5, .int k5)]) dX6_spanBestWays_56 rfl (by decide) (Nat.le_of_ble_eq_true rfl) rfl ?_
        refine wp_goto (tgt := 26) dX6_spanBestWays_59 (by decide) ?_
        exact wp_pick (ks := [1, 2, 3, 4, 5, 6, 0]) rfl (ih _ _ _ h kx)
      · have h := ite_t hc4 h
        refine wp_ldc dX6_spanBestWays_48 koX6_43 ?_
        refine wp_goto (tgt := 55) dX6_spanBestWays_50 (by decide) ?_
        obtain ⟨hb6, h⟩ := ck_inv h
        refine wp_iast dX6_spanBestWays_55 (sk33 hS) (sn33 hS) hb6 ?_
        refine wp_iinc (v := 1) (ls' := [(6, .int (v6 + 1)), (0, .ref 30), (1, .int k1), (2, .int k2), (3, .int k3), (4, .int k4), (5, .int k5)]) dX6_spanBestWays_56 rfl (by decide) (Nat.le_of_ble_eq_true rfl) rfl ?_
        refine wp_goto (tgt := 26) dX6_spanBestWays_59 (by decide) ?_
        exact wp_pick (ks := [1, 2, 3, 4, 5, 6, 0]) rfl (ih _ _ _ h kx)
set_option maxHeartbeats 4000000 in
set_option maxRecDepth 100000 in
theorem wX6_spanBestWays_65 (d : Nat) (hd : 1 ≤ d) {S : gS} {J : gJ} (hS : Sh S)  (k1 : Int32) (k2 : Int32) (k3 : Int32) (k4 : Int32) (k5 : Int32) {Q : gO → gS → gI → gJ → Prop} :
    ∀ (n : Nat) (v6 : Int32) (I : gI) (res : gI), mX6_spanBestWays_65 k1 k2 k3 k4 k5 n v6 I = some res → (∀ (O : gI), res = O → Wp RX6 cX6_spanBestWays 10 none [] hF d 0 0 216 [(0, .ref 30), (1, .int k1), (2, .int k2), (3, .int k3), (4, .int k4)] [] S O J Q) → Wp RX6 cX6_spanBestWays 10 none [] hF d 0 0 65 [(0, .ref 30), (1, .int k1), (2, .int k2), (3, .int k3), (4, .int k4), (5, .int k5), (6, .int v6)] [] S I J Q := by
  intro n
  induction n with
  | zero => intro v6 I res h; exact nso h
  | succ n ih =>
    intro v6 I res h kx
    rw [mX6_spanBestWays_65] at h
    refine wp_iload dX6_spanBestWays_65 rfl ?_
    refine wp_aload_n dX6_spanBestWays_67 rfl rfl ?_
    refine wp_getR dX6_spanBestWays_68 flX6_27 rfl (sk30 hS) (sn30 hS) (sr30_0 hS) ?_
    refine wp_getI dX6_spanBestWays_71 flX6_31 rfl (sk2 hS) (sn2 hS) ?_
    refine wp_icmp_ge (tgt := 216) dX6_spanBestWays_74 (by decide) (fun hc8 => ?_) (fun hc8 => ?_)
    · have h := ite_t hc8 h
      exact wp_pick (ks := [0, 1, 2, 3, 4]) rfl (kx _ (sji h).symm)
    · have h := ite_f hc8 h
      refine wp_iload dX6_spanBestWays_77 rfl ?_
      refine wp_if_le (tgt := 216) dX6_spanBestWays_79 (by decide) (fun hc9 => ?_) (fun hc9 => ?_)
      · have h := ite_t hc9 h
        exact wp_pick (ks := [0, 1, 2, 3, 4]) rfl (kx _ (sji h).symm)
      · have h := ite_f hc9 h
        refine wp_iload dX6_spanBestWays_82 rfl ?_
        refine wp_aload_n dX6_spanBestWays_84 rfl rfl ?_
        refine wp_getR dX6_spanBestWays_85 flX6_27 rfl (sk30 hS) (sn30 hS) (sr30_0 hS) ?_
        refine wp_getR dX6_spanBestWays_88 flX6_37 rfl (sk2 hS) (sn2 hS) (sr2_3 hS) ?_
        refine wp_iload dX6_spanBestWays_91 rfl ?_
        obtain ⟨hb10, h⟩ := ck_inv h
        refine wp_iald dX6_spanBestWays_93 (sk3 hS) (sn3 hS) hb10 ?_
        refine wp_iadd dX6_spanBestWays_94 ?_
        refine wp_istore (ls' := [(7, .int (k5 + (I 3 v6.toNatClampNeg))), (0, .ref 30), (1, .int k1), (2, .int k2), (3, .int k3), (4, .int k4), (5, .int k5), (6, .int v6)]) dX6_spanBestWays_95 (Nat.le_of_ble_eq_true rfl) rfl ?_
        refine wp_iload dX6_spanBestWays_97 rfl ?_
        refine wp_bipush (v := 8) dX6_spanBestWays_99 (by decide) ?_
        refine wp_isub dX6_spanBestWays_101 ?_
        refine wp_aload_n dX6_spanBestWays_102 rfl rfl ?_
        refine wp_getR dX6_spanBestWays_103 flX6_27 rfl (sk30 hS) (sn30 hS) (sr30_0 hS) ?_
        refine wp_getR dX6_spanBestWays_106 flX6_40 rfl (sk2 hS) (sn2 hS) (sr2_4 hS) ?_
        refine wp_iload dX6_spanBestWays_109 rfl ?_
        refine wp_iald dX6_spanBestWays_111 (sk4 hS) (sn4 hS) hb10 ?_
        refine wp_iadd dX6_spanBestWays_112 ?_
        refine wp_istore (ls' := [(8, .int ((k5 - 8) + (I 4 v6.toNatClampNeg))), (7, .int (k5 + (I 3 v6.toNatClampNeg))), (0, .ref 30), (1, .int k1), (2, .int k2), (3, .int k3), (4, .int k4), (5, .int k5), (6, .int v6)]) dX6_spanBestWays_113 (Nat.le_of_ble_eq_true rfl) rfl ?_
        refine wp_aload_n dX6_spanBestWays_115 rfl rfl ?_
        refine wp_getR dX6_spanBestWays_116 flX6_15 rfl (sk30 hS) (sn30 hS) (sr30_2 hS) ?_
        refine wp_iload dX6_spanBestWays_119 rfl ?_
        obtain ⟨hb11, h⟩ := ck_inv h
        refine wp_iald dX6_spanBestWays_121 (sk32 hS) (sn32 hS) hb11 ?_
        refine wp_ldc dX6_spanBestWays_122 koX6_43 ?_
        obtain ⟨x12, hh25, h⟩ := obi h
        have hJ : Wp RX6 cX6_spanBestWays 10 none [] hF d 0 0 160 [(0, .ref 30), (1, .int k1), (2, .int k2), (3, .int k3), (4, .int k4), (5, .int k5), (6, .int v6), (7, .int (k5 + (I 3 v6.toNatClampNeg))), (8, .int ((k5 - 8) + (I 4 v6.toNatClampNeg)))] [.int x12] S I J Q := by
          refine wp_istore (ls' := [(9, .int x12), (0, .ref 30), (1, .int k1), (2, .int k2), (3, .int k3), (4, .int k4), (5, .int k5), (6, .int v6), (7, .int (k5 + (I 3 v6.toNatClampNeg))), (8, .int ((k5 - 8) + (I 4 v6.toNatClampNeg)))]) dX6_spanBestWays_160 (Nat.le_of_ble_eq_true rfl) rfl ?_
          refine wp_iload dX6_spanBestWays_162 rfl ?_
          refine wp_if_eq (tgt := 210) dX6_spanBestWays_164 (by decide) (fun hc18 => ?_) (fun hc18 => ?_)
          · have h := ite_t hc18 h
            refine wp_iinc (v := 1) (ls' := [(6, .int (v6 + 1)), (9, .int x12), (0, .ref 30), (1, .int k1), (2, .int k2), (3, .int k3), (4, .int k4), (5, .int k5), (7, .int (k5 + (I 3 v6.toNatClampNeg))), (8, .int ((k5 - 8) + (I 4 v6.toNatClampNeg)))]) dX6_spanBestWays_210 rfl (by decide) (Nat.le_of_ble_eq_true rfl) rfl ?_
            refine wp_goto (tgt := 65) dX6_spanBestWays_213 (by decide) ?_
            exact wp_pick (ks := [2, 3, 4, 5, 6, 7, 0]) rfl (ih _ _ _ h kx)
          · have h := ite_f hc18 h
            refine wp_iload_n dX6_spanBestWays_167 rfl rfl ?_
            refine wp_iload dX6_spanBestWays_168 rfl ?_
            refine wp_iushr dX6_spanBestWays_170 ?_
            refine wp_iconst (v := 1) dX6_spanBestWays_171 (by decide) ?_
            refine wp_iand dX6_spanBestWays_172 ?_
            refine wp_if_eq (tgt := 210) dX6_spanBestWays_173 (by decide) (fun hc19 => ?_) (fun hc19 => ?_)
            · have h := ite_t hc19 h
              refine wp_iinc (v := 1) (ls' := [(6, .int (v6 + 1)), (9, .int x12), (0, .ref 30), (1, .int k1), (2, .int k2), (3, .int k3), (4, .int k4), (5, .int k5), (7, .int (k5 + (I 3 v6.toNatClampNeg))), (8, .int ((k5 - 8) + (I 4 v6.toNatClampNeg)))]) dX6_spanBestWays_210 rfl (by decide) (Nat.le_of_ble_eq_true rfl) rfl ?_
              refine wp_goto (tgt := 65) dX6_spanBestWays_213 (by decide) ?_
              exact wp_pick (ks := [2, 3, 4, 5, 6, 7, 0]) rfl (ih _ _ _ h kx)
            · have h := ite_f hc19 h
              refine wp_aload_n dX6_spanBestWays_176 rfl rfl ?_
              refine wp_getR dX6_spanBestWays_177 flX6_18 rfl (sk30 hS) (sn30 hS) (sr30_3 hS) ?_
              refine wp_iload dX6_spanBestWays_180 rfl ?_
              refine wp_aload_n dX6_spanBestWays_182 rfl rfl ?_
              refine wp_getR dX6_spanBestWays_183 flX6_18 rfl (sk30 hS) (sn30 hS) (sr30_3 hS) ?_
              refine wp_iload dX6_spanBestWays_186 rfl ?_
              refine wp_iald dX6_spanBestWays_188 (sk33 hS) (sn33 hS) hb11 ?_
              refine wp_aload_n dX6_spanBestWays_189 rfl rfl ?_
              refine wp_getR dX6_spanBestWays_190 flX6_9 rfl (sk30 hS) (sn30 hS) (sr30_1 hS) ?_
              refine wp_iload dX6_spanBestWays_193 rfl ?_
              refine wp_iald dX6_spanBestWays_195 (sk31 hS) (sn31 hS) hb10 ?_
              refine wp_aload_n dX6_spanBestWays_196 rfl rfl ?_
              refine wp_getR dX6_spanBestWays_197 flX6_18 rfl (sk30 hS) (sn30 hS) (sr30_3 hS) ?_
              refine wp_iload dX6_spanBestWays_200 rfl ?_
              obtain ⟨hb20, h⟩ := ck_inv h
              refine wp_iald dX6_spanBestWays_202 (sk33 hS) (sn33 hS) hb20 ?_
              refine wp_min dX6_spanBestWays_203 mlX6_68 ma_min1 ma_2 ma_min3 (Nat.le_trans (by decide) hd) (Nat.le_of_ble_eq_true rfl) ?_
              obtain ⟨x21, hx22, h⟩ := nm_inv h
              refine wp_topi hx22 ?_
              refine wp_max dX6_spanBestWays_206 mlX6_74 ma_max1 ma_2 ma_max3 (Nat.le_trans (by decide) hd) (Nat.le_of_ble_eq_true rfl) ?_
              obtain ⟨x23, hx24, h⟩ := nm_inv h
              refine wp_topi hx24 ?_
              refine wp_iast dX6_spanBestWays_209 (sk33 hS) (sn33 hS) hb11 ?_
              refine wp_iinc (v := 1) (ls' := [(6, .int (v6 + 1)), (9, .int x12), (0, .ref 30), (1, .int k1), (2, .int k2), (3, .int k3), (4, .int k4), (5, .int k5), (7, .int (k5 + (I 3 v6.toNatClampNeg))), (8, .int ((k5 - 8) + (I 4 v6.toNatClampNeg)))]) dX6_spanBestWays_210 rfl (by decide) (Nat.le_of_ble_eq_true rfl) rfl ?_
              refine wp_goto (tgt := 65) dX6_spanBestWays_213 (by decide) ?_
              exact wp_pick (ks := [2, 3, 4, 5, 6, 7, 0]) rfl (ih _ _ _ h kx)
        clear h
        have h := hh25
        clear hh25
        refine wp_icmp_ge (tgt := 159) dX6_spanBestWays_124 (by decide) (fun hc13 => ?_) (fun hc13 => ?_)
        · have h := ite_t hc13 h
          refine wp_iconst (v := 0) dX6_spanBestWays_159 (by decide) ?_
          cases h
          exact wp_pick (ks := [2, 3, 4, 5, 6, 7, 8, 1, 0]) rfl hJ
        · have h := ite_f hc13 h
          refine wp_aload_n dX6_spanBestWays_127 rfl rfl ?_
          refine wp_getR dX6_spanBestWays_128 flX6_15 rfl (sk30 hS) (sn30 hS) (sr30_2 hS) ?_
          refine wp_iload dX6_spanBestWays_131 rfl ?_
          refine wp_iald dX6_spanBestWays_133 (sk32 hS) (sn32 hS) hb11 ?_
          refine wp_aload_n dX6_spanBestWays_134 rfl rfl ?_
          refine wp_getR dX6_spanBestWays_135 flX6_27 rfl (sk30 hS) (sn30 hS) (sr30_0 hS) ?_
          refine wp_getR dX6_spanBestWays_138 flX6_53 rfl (sk2 hS) (sn2 hS) (sr2_5 hS) ?_
          refine wp_iload dX6_spanBestWays_141 rfl ?_
          refine wp_iald dX6_spanBestWays_143 (sk5 hS) (sn5 hS) hb10 ?_
          refine wp_aload_n dX6_spanBestWays_144 rfl rfl ?_
          refine wp_getR dX6_spanBestWays_145 flX6_15 rfl (sk30 hS) (sn30 hS) (sr30_2 hS) ?_
          refine wp_iload dX6_spanBestWays_148 rfl ?_
          obtain ⟨hb14, h⟩ := ck_inv h
          refine wp_iald dX6_spanBestWays_150 (sk32 hS) (sn32 hS) hb14 ?_
          refine wp_iadd dX6_spanBestWays_151 ?_
          obtain ⟨x15, hx16, h⟩ := nm_inv h
          refine wp_topi hx16 ?_
          refine wp_icmp_ne (tgt := 159) dX6_spanBestWays_152 (by decide) (fun hc17 => ?_) (fun hc17 => ?_)
          · have h := ite_f hc17 h
            refine wp_iconst (v := 0) dX6_spanBestWays_159 (by decide) ?_
            cases h
            exact wp_pick (ks := [2, 3, 4, 5, 6, 7, 8, 1, 0]) rfl hJ
          · have h := ite_t hc17 h
            refine wp_iconst (v := 1) dX6_spanBestWays_155 (by decide) ?_
            refine wp_goto (tgt := 160) dX6_spanBestWays_156 (by decide) ?_
            cases h
            exact wp_pick (ks := [2, 3, 4, 5, 6, 7, 8, 1, 0]) rfl hJ
set_option maxHeartbeats 4000000 in
set_option maxRecDepth 100000 in
theorem wX6_spanBestWays_3 (N : Nat) (d : Nat) (hd : 1 ≤ d) {S : gS} {J : gJ} (hS : Sh S)  (k1 : Int32) (k2 : Int32) (k3 : Int32) {Q : gO → gS → gI → gJ → Prop} :
    ∀ (n : Nat) (v4 : Int32) (I : gI) (res : gI), mX6_spanBestWays_3 N k1 k2 k3 n v4 I = some res → (∀ (O : gI), res = O → Wp RX6 cX6_spanBestWays 10 none [] hF d 0 0 222 [] [] S O J Q) → Wp RX6 cX6_spanBestWays 10 none [] hF d 0 0 3 [(0, .ref 30), (1, .int k1), (2, .int k2), (3, .int k3), (4, .int v4)] [] S I J Q := by
  intro n
  induction n with
  | zero => intro v4 I res h; exact nso h
  | succ n ih =>
    intro v4 I res h kx
    rw [mX6_spanBestWays_3] at h
    refine wp_iload dX6_spanBestWays_3 rfl ?_
    refine wp_iload_n dX6_spanBestWays_5 rfl rfl ?_
    refine wp_icmp_gt (tgt := 222) dX6_spanBestWays_6 (by decide) (fun hc1 => ?_) (fun hc1 => ?_)
    · have h := ite_t hc1 h
      exact wp_pick (ks := []) rfl (kx _ (sji h).symm)
    · have h := ite_f hc1 h
      refine wp_iload dX6_spanBestWays_9 rfl ?_
      refine wp_bipush (v := 7) dX6_spanBestWays_11 (by decide) ?_
      refine wp_icmp_gt (tgt := 222) dX6_spanBestWays_13 (by decide) (fun hc2 => ?_) (fun hc2 => ?_)
      · have h := ite_t hc2 h
        exact wp_pick (ks := []) rfl (kx _ (sji h).symm)
      · have h := ite_f hc2 h
        refine wp_iload dX6_spanBestWays_16 rfl ?_
        refine wp_bipush (v := 8) dX6_spanBestWays_18 (by decide) ?_
        refine wp_imul dX6_spanBestWays_20 ?_
        refine wp_istore (ls' := [(5, .int (v4 * 8)), (0, .ref 30), (1, .int k1), (2, .int k2), (3, .int k3), (4, .int v4)]) dX6_spanBestWays_21 (Nat.le_of_ble_eq_true rfl) rfl ?_
        refine wp_iconst (v := 0) dX6_spanBestWays_23 (by decide) ?_
        refine wp_istore (ls' := [(6, .int 0), (5, .int (v4 * 8)), (0, .ref 30), (1, .int k1), (2, .int k2), (3, .int k3), (4, .int v4)]) dX6_spanBestWays_24 (Nat.le_of_ble_eq_true rfl) rfl ?_
        obtain ⟨I7, hL929, h⟩ := obi h
        refine wp_pick (ks := [2, 3, 4, 5, 6, 1, 0]) rfl (wX6_spanBestWays_26 d hd hS  k1 k2 k3 v4 (v4 * 8) N 0 I _ hL929 (fun _ e30 => ?_))
        cases e30
        refine wp_iconst (v := 0) dX6_spanBestWays_62 (by decide) ?_
        refine wp_istore (ls' := [(6, .int 0), (0, .ref 30), (1, .int k1), (2, .int k2), (3, .int k3), (4, .int v4), (5, .int (v4 * 8))]) dX6_spanBestWays_63 (Nat.le_of_ble_eq_true rfl) rfl ?_
        obtain ⟨I26, hL927, h⟩ := obi h
        refine wp_pick (ks := [1, 2, 3, 4, 5, 6, 0]) rfl (wX6_spanBestWays_65 d hd hS  k1 k2 k3 v4 (v4 * 8) N 0 I7 _ hL927 (fun _ e28 => ?_))
        cases e28
        refine wp_iinc (v := 1) (ls' := [(4, .int (v4 + 1)), (0, .ref 30), (1, .int k1), (2, .int k2), (3, .int k3)]) dX6_spanBestWays_216 rfl (by decide) (Nat.le_of_ble_eq_true rfl) rfl ?_
        refine wp_goto (tgt := 3) dX6_spanBestWays_219 (by decide) ?_
        exact wp_pick (ks := [1, 2, 3, 4, 0]) rfl (ih _ _ _ h kx)
set_option maxHeartbeats 4000000 in
set_option maxRecDepth 100000 in
theorem ct_X6_spanBestWays (N : Nat) (d : Nat) (hd : 1 ≤ d) {S : gS} {J : gJ} (hS : Sh S)  {a2 : Int32} {a3 : Int32} {a4 : Int32} {I : gI} {r : gI} (h : mX6_spanBestWays N a2 a3 a4 I = some r) : Ct yX6_spanBestWays (wsY yX6_spanBestWays cX6_spanBestWays 10 none) d 0 0 [.ref 30, .int a2, .int a3, .int a4] S I J (qE (.inl none) S r J) := by
  refine Ct.of hF (fun _ _ _ _ _ => trivial) (by decide +kernel) (Nat.le_of_ble_eq_true rfl) ⟨Or.inl (sn30 hS), trivial, trivial, trivial, trivial⟩ ?_
  show Wp RX6 cX6_spanBestWays 10 none [] hF d 0 0 0 [(0, .ref 30), (1, .int a2), (2, .int a3), (3, .int a4)] [] S I J _
  unfold mX6_spanBestWays at h
  refine wp_iconst (v := 0) dX6_spanBestWays_0 (by decide) ?_
  refine wp_istore (ls' := [(4, .int 0), (0, .ref 30), (1, .int a2), (2, .int a3), (3, .int a4)]) dX6_spanBestWays_1 (Nat.le_of_ble_eq_true rfl) rfl ?_
  obtain ⟨I31, hL932, h⟩ := obi h
  refine wp_pick (ks := [1, 2, 3, 4, 0]) rfl (wX6_spanBestWays_3 N d hd hS  a2 a3 a4 N 0 I _ hL932 (fun _ e33 => ?_))
  cases e33
  exact wp_vret dX6_spanBestWays_222 rfl (by obtain rfl := sji h; exact ⟨rfl, rfl, rfl, rfl⟩)
def mX6_firstStep_11 (k1 : Int32) (k2 : Int32) (k3 : Int32) (k4 : Int32) (k5 : Int32) (I : gI) : Nat → Int32 → Option ((Unit) ⊕ (Int32))
  | 0, _ => none
  | n + 1, v6 => if (I 2 1) ≤ v6 then (some (.inl ())) else (ck v6 16 (Option.bind (if ((ushr k1 v6) &&& 1) = 0 then (some 0) else (if (I 3 v6.toNatClampNeg) = k2 then (some 1) else (some 0)) : Option (Int32)) (fun x3 => Option.bind (if (I 31 v6.toNatClampNeg) < k4 then (some 0) else (ck (((k3 - 1) * 8) + (I 4 v6.toNatClampNeg)) 64 (nm (I 33 (((k3 - 1) * 8) + (I 4 v6.toNatClampNeg)).toNatClampNeg) (fun x9 => if x9 < k4 then (some 0) else (some 1)))) : Option (Int32)) (fun x6 => if x3 = 0 then (mX6_firstStep_11 k1 k2 k3 k4 k5 I n (v6 + 1)) else (if x6 = 0 then (mX6_firstStep_11 k1 k2 k3 k4 k5 I n (v6 + 1)) else (ck k5 64 (ck (((k3 - 1) * 8) + (I 4 v6.toNatClampNeg)) 64 (nm (I 32 (((k3 - 1) * 8) + (I 4 v6.toNatClampNeg)).toNatClampNeg) (fun x16 => if (I 32 k5.toNatClampNeg) = ((I 5 v6.toNatClampNeg) + x16) then (some (.inr v6)) else (mX6_firstStep_11 k1 k2 k3 k4 k5 I n (v6 + 1)))))))))))
def mX6_firstStep (N : Nat) (a2 : Int32) (a3 : Int32) (a4 : Int32) (a5 : Int32) (I : gI) : Option (Int32) := lbind (mX6_firstStep_11 a2 a3 a4 a5 ((a4 * 8) + a3) I N 0) (fun _ => some (-1)) (fun r23 => some r23)
set_option maxHeartbeats 4000000 in
set_option maxRecDepth 100000 in
theorem wX6_firstStep_11 (d : Nat) (hd : 0 ≤ d) {S : gS} {J : gJ} (hS : Sh S)  (k1 : Int32) (k2 : Int32) (k3 : Int32) (k4 : Int32) (k5 : Int32) (I : gI) {Q : gO → gS → gI → gJ → Prop} :
    ∀ (n : Nat) (v6 : Int32) (res : (Unit) ⊕ (Int32)), mX6_firstStep_11 k1 k2 k3 k4 k5 I n v6 = some res → (res = Sum.inl () → Wp RX6 cX6_firstStep 10 (some .int) [] hF d 0 0 150 [] [] S I J Q) → (∀ (r : Int32), res = Sum.inr r → Q (.inl (some (.int r))) S I J) → Wp RX6 cX6_firstStep 10 (some .int) [] hF d 0 0 11 [(0, .ref 30), (1, .int k1), (2, .int k2), (3, .int k3), (4, .int k4), (5, .int k5), (6, .int v6)] [] S I J Q := by
  intro n
  induction n with
  | zero => intro v6 res h; exact nso h
  | succ n ih =>
    intro v6 res h kx kr
    rw [mX6_firstStep_11] at h
    refine wp_iload dX6_firstStep_11 rfl ?_
    refine wp_aload_n dX6_firstStep_13 rfl rfl ?_
    refine wp_getR dX6_firstStep_14 flX6_27 rfl (sk30 hS) (sn30 hS) (sr30_0 hS) ?_
    refine wp_getI dX6_firstStep_17 flX6_31 rfl (sk2 hS) (sn2 hS) ?_
    refine wp_icmp_ge (tgt := 150) dX6_firstStep_20 (by decide) (fun hc1 => ?_) (fun hc1 => ?_)
    · have h := ite_t hc1 h
      exact wp_pick (ks := []) rfl (kx (sji h).symm)
    · have h := ite_f hc1 h
      refine wp_iload_n dX6_firstStep_23 rfl rfl ?_
      refine wp_iconst (v := 1) dX6_firstStep_24 (by decide) ?_
      refine wp_isub dX6_firstStep_25 ?_
      refine wp_bipush (v := 8) dX6_firstStep_26 (by decide) ?_
      refine wp_imul dX6_firstStep_28 ?_
      refine wp_aload_n dX6_firstStep_29 rfl rfl ?_
      refine wp_getR dX6_firstStep_30 flX6_27 rfl (sk30 hS) (sn30 hS) (sr30_0 hS) ?_
      refine wp_getR dX6_firstStep_33 flX6_40 rfl (sk2 hS) (sn2 hS) (sr2_4 hS) ?_
      refine wp_iload dX6_firstStep_36 rfl ?_
      obtain ⟨hb2, h⟩ := ck_inv h
      refine wp_iald dX6_firstStep_38 (sk4 hS) (sn4 hS) hb2 ?_
      refine wp_iadd dX6_firstStep_39 ?_
      refine wp_istore (ls' := [(7, .int (((k3 - 1) * 8) + (I 4 v6.toNatClampNeg))), (0, .ref 30), (1, .int k1), (2, .int k2), (3, .int k3), (4, .int k4), (5, .int k5), (6, .int v6)]) dX6_firstStep_40 (Nat.le_of_ble_eq_true rfl) rfl ?_
      refine wp_iload_n dX6_firstStep_42 rfl rfl ?_
      refine wp_iload dX6_firstStep_43 rfl ?_
      refine wp_iushr dX6_firstStep_45 ?_
      refine wp_iconst (v := 1) dX6_firstStep_46 (by decide) ?_
      refine wp_iand dX6_firstStep_47 ?_
      obtain ⟨x3, hh20, h⟩ := obi h
      have hJ : Wp RX6 cX6_firstStep 10 (some .int) [] hF d 0 0 70 [(0, .ref 30), (1, .int k1), (2, .int k2), (3, .int k3), (4, .int k4), (5, .int k5), (6, .int v6), (7, .int (((k3 - 1) * 8) + (I 4 v6.toNatClampNeg)))] [.int x3] S I J Q := by
        refine wp_istore (ls' := [(8, .int x3), (0, .ref 30), (1, .int k1), (2, .int k2), (3, .int k3), (4, .int k4), (5, .int k5), (6, .int v6), (7, .int (((k3 - 1) * 8) + (I 4 v6.toNatClampNeg)))]) dX6_firstStep_70 (Nat.le_of_ble_eq_true rfl) rfl ?_
        refine wp_aload_n dX6_firstStep_72 rfl rfl ?_
        refine wp_getR dX6_firstStep_73 flX6_9 rfl (sk30 hS) (sn30 hS) (sr30_1 hS) ?_
        refine wp_iload dX6_firstStep_76 rfl ?_
        refine wp_iald dX6_firstStep_78 (sk31 hS) (sn31 hS) hb2 ?_
        refine wp_iload dX6_firstStep_79 rfl ?_
        obtain ⟨x6, hh19, h⟩ := obi h
        have hJ : Wp RX6 cX6_firstStep 10 (some .int) [] hF d 0 0 101 [(0, .ref 30), (1, .int k1), (2, .int k2), (3, .int k3), (4, .int k4), (5, .int k5), (6, .int v6), (7, .int (((k3 - 1) * 8) + (I 4 v6.toNatClampNeg))), (8, .int x3)] [.int x6] S I J Q := by
          refine wp_istore (ls' := [(9, .int x6), (0, .ref 30), (1, .int k1), (2, .int k2), (3, .int k3), (4, .int k4), (5, .int k5), (6, .int v6), (7, .int (((k3 - 1) * 8) + (I 4 v6.toNatClampNeg))), (8, .int x3)]) dX6_firstStep_101 (Nat.le_of_ble_eq_true rfl) rfl ?_
          refine wp_iload dX6_firstStep_103 rfl ?_
          refine wp_if_eq (tgt := 144) dX6_firstStep_105 (by decide) (fun hc12 => ?_) (fun hc12 => ?_)
          · have h := ite_t hc12 h
            refine wp_iinc (v := 1) (ls' := [(6, .int (v6 + 1)), (9, .int x6), (0, .ref 30), (1, .int k1), (2, .int k2), (3, .int k3), (4, .int k4), (5, .int k5), (7, .int (((k3 - 1) * 8) + (I 4 v6.toNatClampNeg))), (8, .int x3)]) dX6_firstStep_144 rfl (by decide) (Nat.le_of_ble_eq_true rfl) rfl ?_
            refine wp_goto (tgt := 11) dX6_firstStep_147 (by decide) ?_
            exact wp_pick (ks := [2, 3, 4, 5, 6, 7, 0]) rfl (ih _ _ h kx kr)
          · have h := ite_f hc12 h
            refine wp_iload dX6_firstStep_108 rfl ?_
            refine wp_if_eq (tgt := 144) dX6_firstStep_110 (by decide) (fun hc13 => ?_) (fun hc13 => ?_)
            · have h := ite_t hc13 h
              refine wp_iinc (v := 1) (ls' := [(6, .int (v6 + 1)), (9, .int x6), (0, .ref 30), (1, .int k1), (2, .int k2), (3, .int k3), (4, .int k4), (5, .int k5), (7, .int (((k3 - 1) * 8) + (I 4 v6.toNatClampNeg))), (8, .int x3)]) dX6_firstStep_144 rfl (by decide) (Nat.le_of_ble_eq_true rfl) rfl ?_
              refine wp_goto (tgt := 11) dX6_firstStep_147 (by decide) ?_
              exact wp_pick (ks := [2, 3, 4, 5, 6, 7, 0]) rfl (ih _ _ h kx kr)
            · have h := ite_f hc13 h
              refine wp_aload_n dX6_firstStep_113 rfl rfl ?_
              refine wp_getR dX6_firstStep_114 flX6_15 rfl (sk30 hS) (sn30 hS) (sr30_2 hS) ?_
              refine wp_iload dX6_firstStep_117 rfl ?_
              obtain ⟨hb14, h⟩ := ck_inv h
              refine wp_iald dX6_firstStep_119 (sk32 hS) (sn32 hS) hb14 ?_
              refine wp_aload_n dX6_firstStep_120 rfl rfl ?_
              refine wp_getR dX6_firstStep_121 flX6_27 rfl (sk30 hS) (sn30 hS) (sr30_0 hS) ?_
              refine wp_getR dX6_firstStep_124 flX6_53 rfl (sk2 hS) (sn2 hS) (sr2_5 hS) ?_
              refine wp_iload dX6_firstStep_127 rfl ?_
              refine wp_iald dX6_firstStep_129 (sk5 hS) (sn5 hS) hb2 ?_
              refine wp_aload_n dX6_firstStep_130 rfl rfl ?_
              refine wp_getR dX6_firstStep_131 flX6_15 rfl (sk30 hS) (sn30 hS) (sr30_2 hS) ?_
              refine wp_iload dX6_firstStep_134 rfl ?_
              obtain ⟨hb15, h⟩ := ck_inv h
              refine wp_iald dX6_firstStep_136 (sk32 hS) (sn32 hS) hb15 ?_
              obtain ⟨x16, hx17, h⟩ := nm_inv h
              refine wp_topi hx17 ?_
              refine wp_iadd dX6_firstStep_137 ?_
              refine wp_icmp_ne (tgt := 144) dX6_firstStep_138 (by decide) (fun hc18 => ?_) (fun hc18 => ?_)
              · have h := ite_f hc18 h
                refine wp_iinc (v := 1) (ls' := [(6, .int (v6 + 1)), (9, .int x6), (0, .ref 30), (1, .int k1), (2, .int k2), (3, .int k3), (4, .int k4), (5, .int k5), (7, .int (((k3 - 1) * 8) + (I 4 v6.toNatClampNeg))), (8, .int x3)]) dX6_firstStep_144 rfl (by decide) (Nat.le_of_ble_eq_true rfl) rfl ?_
                refine wp_goto (tgt := 11) dX6_firstStep_147 (by decide) ?_
                exact wp_pick (ks := [2, 3, 4, 5, 6, 7, 0]) rfl (ih _ _ h kx kr)
              · have h := ite_t hc18 h
                refine wp_iload dX6_firstStep_141 rfl ?_
                exact wp_iret dX6_firstStep_143 rfl (kr _ (sji h).symm)
        clear h
        have h := hh19
        clear hh19
        refine wp_icmp_lt (tgt := 100) dX6_firstStep_81 (by decide) (fun hc7 => ?_) (fun hc7 => ?_)
        · have h := ite_t hc7 h
          refine wp_iconst (v := 0) dX6_firstStep_100 (by decide) ?_
          cases h
          exact wp_pick (ks := [1, 2, 3, 4, 5, 6, 7, 8, 0]) rfl hJ
        · have h := ite_f hc7 h
          refine wp_aload_n dX6_firstStep_84 rfl rfl ?_
          refine wp_getR dX6_firstStep_85 flX6_18 rfl (sk30 hS) (sn30 hS) (sr30_3 hS) ?_
          refine wp_iload dX6_firstStep_88 rfl ?_
          obtain ⟨hb8, h⟩ := ck_inv h
          refine wp_iald dX6_firstStep_90 (sk33 hS) (sn33 hS) hb8 ?_
          obtain ⟨x9, hx10, h⟩ := nm_inv h
          refine wp_topi hx10 ?_
          refine wp_iload dX6_firstStep_91 rfl ?_
          refine wp_icmp_lt (tgt := 100) dX6_firstStep_93 (by decide) (fun hc11 => ?_) (fun hc11 => ?_)
          · have h := ite_t hc11 h
            refine wp_iconst (v := 0) dX6_firstStep_100 (by decide) ?_
            cases h
            exact wp_pick (ks := [1, 2, 3, 4, 5, 6, 7, 8, 0]) rfl hJ
          · have h := ite_f hc11 h
            refine wp_iconst (v := 1) dX6_firstStep_96 (by decide) ?_
            refine wp_goto (tgt := 101) dX6_firstStep_97 (by decide) ?_
            cases h
            exact wp_pick (ks := [1, 2, 3, 4, 5, 6, 7, 8, 0]) rfl hJ
      clear h
      have h := hh20
      clear hh20
      refine wp_if_eq (tgt := 69) dX6_firstStep_48 (by decide) (fun hc4 => ?_) (fun hc4 => ?_)
      · have h := ite_t hc4 h
        refine wp_iconst (v := 0) dX6_firstStep_69 (by decide) ?_
        cases h
        exact wp_pick (ks := [1, 2, 3, 4, 5, 6, 7, 0]) rfl hJ
      · have h := ite_f hc4 h
        refine wp_aload_n dX6_firstStep_51 rfl rfl ?_
        refine wp_getR dX6_firstStep_52 flX6_27 rfl (sk30 hS) (sn30 hS) (sr30_0 hS) ?_
        refine wp_getR dX6_firstStep_55 flX6_37 rfl (sk2 hS) (sn2 hS) (sr2_3 hS) ?_
        refine wp_iload dX6_firstStep_58 rfl ?_
        refine wp_iald dX6_firstStep_60 (sk3 hS) (sn3 hS) hb2 ?_
        refine wp_iload_n dX6_firstStep_61 rfl rfl ?_
        refine wp_icmp_ne (tgt := 69) dX6_firstStep_62 (by decide) (fun hc5 => ?_) (fun hc5 => ?_)
        · have h := ite_f hc5 h
          refine wp_iconst (v := 0) dX6_firstStep_69 (by decide) ?_
          cases h
          exact wp_pick (ks := [1, 2, 3, 4, 5, 6, 7, 0]) rfl hJ
        · have h := ite_t hc5 h
          refine wp_iconst (v := 1) dX6_firstStep_65 (by decide) ?_
          refine wp_goto (tgt := 70) dX6_firstStep_66 (by decide) ?_
          cases h
          exact wp_pick (ks := [1, 2, 3, 4, 5, 6, 7, 0]) rfl hJ
set_option maxHeartbeats 4000000 in
set_option maxRecDepth 100000 in
theorem ct_X6_firstStep (N : Nat) (d : Nat) (hd : 0 ≤ d) {S : gS} {J : gJ} (hS : Sh S)  {a2 : Int32} {a3 : Int32} {a4 : Int32} {a5 : Int32} {I : gI} {r : Int32} (h : mX6_firstStep N a2 a3 a4 a5 I = some r) : Ct yX6_firstStep (wsY yX6_firstStep cX6_firstStep 10 (some .int)) d 0 0 [.ref 30, .int a2, .int a3, .int a4, .int a5] S I J (qE (.inl (some (.int r))) S I J) := by
  refine Ct.of hF (fun _ _ _ _ _ => trivial) (by decide +kernel) (Nat.le_of_ble_eq_true rfl) ⟨Or.inl (sn30 hS), trivial, trivial, trivial, trivial, trivial⟩ ?_
  show Wp RX6 cX6_firstStep 10 (some .int) [] hF d 0 0 0 [(0, .ref 30), (1, .int a2), (2, .int a3), (3, .int a4), (4, .int a5)] [] S I J _
  unfold mX6_firstStep at h
  refine wp_iload_n dX6_firstStep_0 rfl rfl ?_
  refine wp_bipush (v := 8) dX6_firstStep_1 (by decide) ?_
  refine wp_imul dX6_firstStep_3 ?_
  refine wp_iload_n dX6_firstStep_4 rfl rfl ?_
  refine wp_iadd dX6_firstStep_5 ?_
  refine wp_istore (ls' := [(5, .int ((a4 * 8) + a3)), (0, .ref 30), (1, .int a2), (2, .int a3), (3, .int a4), (4, .int a5)]) dX6_firstStep_6 (Nat.le_of_ble_eq_true rfl) rfl ?_
  refine wp_iconst (v := 0) dX6_firstStep_8 (by decide) ?_
  refine wp_istore (ls' := [(6, .int 0), (5, .int ((a4 * 8) + a3)), (0, .ref 30), (1, .int a2), (2, .int a3), (3, .int a4), (4, .int a5)]) dX6_firstStep_9 (Nat.le_of_ble_eq_true rfl) rfl ?_
  rcases lbi h with ⟨⟨⟩, hL921, h⟩ | ⟨r23, hL921, h⟩
  · refine wp_pick (ks := [2, 3, 4, 5, 6, 1, 0]) rfl (wX6_firstStep_11 d hd hS  a2 a3 a4 a5 ((a4 * 8) + a3) I N 0 _ hL921 (fun  e22 => ?_) (fun _ e9 => by cases e9))
    cases e22
    refine wp_iconst (v := (-1)) dX6_firstStep_150 (by decide) ?_
    exact wp_iret dX6_firstStep_151 rfl (by obtain rfl := sji h; exact ⟨rfl, rfl, rfl, rfl⟩)
  · refine wp_pick (ks := [2, 3, 4, 5, 6, 1, 0]) rfl (wX6_firstStep_11 d hd hS  a2 a3 a4 a5 ((a4 * 8) + a3) I N 0 _ hL921 (fun  e9 => by cases e9) (fun _ e22 => ?_))
    cases e22
    exact (by obtain rfl := sji h; exact ⟨rfl, rfl, rfl, rfl⟩)
def mX6_bestOf_23 (k1 : Int32) (k2 : Int32) (k3 : Int32) (k5 : Int32) (I : gI) : Nat → Int32 → Option (Int32)
  | 0, _ => none
  | n + 1, v6 => if (I 30 6) ≤ v6 then (some v6) else (ck ((v6 * 8) + k2) 64 (if (I 32 ((v6 * 8) + k2).toNatClampNeg) = k5 then (some v6) else (mX6_bestOf_23 k1 k2 k3 k5 I n (v6 + 1))))
def mX6_bestOf_87 (N : Nat) (k1 : Int32) (k7 : Int32) (I : gI) : Nat → Int32 → Int32 → Int32 → Option ((Int32) ⊕ (Int32 × gI))
  | 0, _, _, _ => none
  | n + 1, v8, v9, v10 => if v10 ≤ 0 then (some (.inl v8)) else (Option.bind (mX6_firstStep N k1 v9 v10 k7 I) (fun r13 => if r13 = (-1) then (some (.inr (0, I))) else (ck r13 16 (mX6_bestOf_87 N k1 k7 I n (v8 ||| ((1 : Int32) <<< (r13 &&& 31))) (I 4 r13.toNatClampNeg) (v10 + (-1))))))
def mX6_bestOf (N : Nat) (a2 : Int32) (a3 : Int32) (a4 : Int32) (a5 : Int32) (I : gI) : Option (Int32 × gI) := Option.bind (mX6_leastMetric N a2 a3 a4 a5 I) (fun (r1, I2) => if r1 < 1000000 then (Option.bind (mX6_bestOf_23 a2 a3 a4 r1 I2 N 0) (fun y8 => Option.bind (mX6_spanBestWays N a2 a4 y8 I2) (fun I9 => ck ((y8 * 8) + a3) 64 (lbind (mX6_bestOf_87 N a2 (I9 33 ((y8 * 8) + a3).toNatClampNeg) I9 N 0 a3 y8) (fun y17 => some (y17, I9)) (fun (r20, I21) => some (r20, I21)))))) else (some (0, I2)))
set_option maxHeartbeats 4000000 in
set_option maxRecDepth 100000 in
theorem wX6_bestOf_23 (d : Nat) (hd : 2 ≤ d) {S : gS} {J : gJ} (hS : Sh S)  (k1 : Int32) (k2 : Int32) (k3 : Int32) (k5 : Int32) (I : gI) {Q : gO → gS → gI → gJ → Prop} :
    ∀ (n : Nat) (v6 : Int32) (res : Int32), mX6_bestOf_23 k1 k2 k3 k5 I n v6 = some res → (∀ (o6 : Int32), res = o6 → Wp RX6 cX6_bestOf 12 (some .int) [] hF d 0 0 55 [(0, .ref 30), (1, .int k1), (2, .int k2), (3, .int k3), (6, .int o6)] [] S I J Q) → Wp RX6 cX6_bestOf 12 (some .int) [] hF d 0 0 23 [(0, .ref 30), (1, .int k1), (2, .int k2), (3, .int k3), (5, .int k5), (6, .int v6)] [] S I J Q := by
  intro n
  induction n with
  | zero => intro v6 res h; exact nso h
  | succ n ih =>
    intro v6 res h kx
    rw [mX6_bestOf_23] at h
    refine wp_iload dX6_bestOf_23 rfl ?_
    refine wp_aload_n dX6_bestOf_25 rfl rfl ?_
    refine wp_getI dX6_bestOf_26 flX6_44 rfl (sk30 hS) (sn30 hS) ?_
    refine wp_icmp_ge (tgt := 55) dX6_bestOf_29 (by decide) (fun hc5 => ?_) (fun hc5 => ?_)
    · have h := ite_t hc5 h
      exact wp_pick (ks := [0, 1, 2, 3, 5]) rfl (kx _ (sji h).symm)
    · have h := ite_f hc5 h
      refine wp_aload_n dX6_bestOf_32 rfl rfl ?_
      refine wp_getR dX6_bestOf_33 flX6_15 rfl (sk30 hS) (sn30 hS) (sr30_2 hS) ?_
      refine wp_iload dX6_bestOf_36 rfl ?_
      refine wp_bipush (v := 8) dX6_bestOf_38 (by decide) ?_
      refine wp_imul dX6_bestOf_40 ?_
      refine wp_iload_n dX6_bestOf_41 rfl rfl ?_
      refine wp_iadd dX6_bestOf_42 ?_
      obtain ⟨hb6, h⟩ := ck_inv h
      refine wp_iald dX6_bestOf_43 (sk32 hS) (sn32 hS) hb6 ?_
      refine wp_iload dX6_bestOf_44 rfl ?_
      refine wp_icmp_eq (tgt := 55) dX6_bestOf_46 (by decide) (fun hc7 => ?_) (fun hc7 => ?_)
      · have h := ite_t hc7 h
        exact wp_pick (ks := [0, 1, 2, 3, 5]) rfl (kx _ (sji h).symm)
      · have h := ite_f hc7 h
        refine wp_iinc (v := 1) (ls' := [(6, .int (v6 + 1)), (0, .ref 30), (1, .int k1), (2, .int k2), (3, .int k3), (5, .int k5)]) dX6_bestOf_49 rfl (by decide) (Nat.le_of_ble_eq_true rfl) rfl ?_
        refine wp_goto (tgt := 23) dX6_bestOf_52 (by decide) ?_
        exact wp_pick (ks := [1, 2, 3, 4, 5, 0]) rfl (ih _ _ h kx)
set_option maxHeartbeats 4000000 in
set_option maxRecDepth 100000 in
theorem wX6_bestOf_87 (N : Nat) (d : Nat) (hd : 2 ≤ d) {S : gS} {J : gJ} (hS : Sh S)  (k1 : Int32) (k7 : Int32) (I : gI) {Q : gO → gS → gI → gJ → Prop} :
    ∀ (n : Nat) (v8 : Int32) (v9 : Int32) (v10 : Int32) (res : (Int32) ⊕ (Int32 × gI)), mX6_bestOf_87 N k1 k7 I n v8 v9 v10 = some res → (∀ (o8 : Int32), res = Sum.inl o8 → Wp RX6 cX6_bestOf 12 (some .int) [] hF d 0 0 140 [(8, .int o8)] [] S I J Q) → (∀ (r : Int32) (O : gI), res = Sum.inr (r, O) → Q (.inl (some (.int r))) S O J) → Wp RX6 cX6_bestOf 12 (some .int) [] hF d 0 0 87 [(0, .ref 30), (1, .int k1), (7, .int k7), (8, .int v8), (9, .int v9), (10, .int v10)] [] S I J Q := by
  intro n
  induction n with
  | zero => intro v8 v9 v10 res h; exact nso h
  | succ n ih =>
    intro v8 v9 v10 res h kx kr
    rw [mX6_bestOf_87] at h
    refine wp_iload dX6_bestOf_87 rfl ?_
    refine wp_if_le (tgt := 140) dX6_bestOf_89 (by decide) (fun hc12 => ?_) (fun hc12 => ?_)
    · have h := ite_t hc12 h
      exact wp_pick (ks := [3]) rfl (kx _ (sji h).symm)
    · have h := ite_f hc12 h
      refine wp_aload_n dX6_bestOf_92 rfl rfl ?_
      refine wp_iload_n dX6_bestOf_93 rfl rfl ?_
      refine wp_iload dX6_bestOf_94 rfl ?_
      refine wp_iload dX6_bestOf_96 rfl ?_
      refine wp_iload dX6_bestOf_98 rfl ?_
      obtain ⟨r13, hF14, h⟩ := obi h
      refine wp_callVi (ci := 6) (As := [.int k1, .int v9, .int v10, .int k7]) dX6_bestOf_100 lbX6_firstStep mlX6_64 imX6_firstStep seX6_firstStep vc6 (ct_X6_firstStep N 0 (Nat.le_refl _) hS  hF14) rfl rfl (Nat.le_trans (by decide) hd) (sk30 hS) (sn30 hS) (Nat.le_of_ble_eq_true rfl) (fun _ => ?_)
      refine wp_istore (ls' := [(11, .int r13), (0, .ref 30), (1, .int k1), (7, .int k7), (8, .int v8), (9, .int v9), (10, .int v10)]) dX6_bestOf_103 (Nat.le_of_ble_eq_true rfl) rfl ?_
      refine wp_iload dX6_bestOf_105 rfl ?_
      refine wp_iconst (v := (-1)) dX6_bestOf_107 (by decide) ?_
      refine wp_icmp_ne (tgt := 113) dX6_bestOf_108 (by decide) (fun hc15 => ?_) (fun hc15 => ?_)
      · have h := ite_f hc15 h
        refine wp_iload dX6_bestOf_113 rfl ?_
        refine wp_iconst (v := 1) dX6_bestOf_115 (by decide) ?_
        refine wp_iload dX6_bestOf_116 rfl ?_
        refine wp_ishl dX6_bestOf_118 ?_
        refine wp_ior dX6_bestOf_119 ?_
        refine wp_istore (ls' := [(8, .int (v8 ||| ((1 : Int32) <<< (r13 &&& 31)))), (11, .int r13), (0, .ref 30), (1, .int k1), (7, .int k7), (9, .int v9), (10, .int v10)]) dX6_bestOf_120 (Nat.le_of_ble_eq_true rfl) rfl ?_
        refine wp_aload_n dX6_bestOf_122 rfl rfl ?_
        refine wp_getR dX6_bestOf_123 flX6_27 rfl (sk30 hS) (sn30 hS) (sr30_0 hS) ?_
        refine wp_getR dX6_bestOf_126 flX6_40 rfl (sk2 hS) (sn2 hS) (sr2_4 hS) ?_
        refine wp_iload dX6_bestOf_129 rfl ?_
        obtain ⟨hb16, h⟩ := ck_inv h
        refine wp_iald dX6_bestOf_131 (sk4 hS) (sn4 hS) hb16 ?_
        refine wp_istore (ls' := [(9, .int (I 4 r13.toNatClampNeg)), (8, .int (v8 ||| ((1 : Int32) <<< (r13 &&& 31)))), (11, .int r13), (0, .ref 30), (1, .int k1), (7, .int k7), (10, .int v10)]) dX6_bestOf_132 (Nat.le_of_ble_eq_true rfl) rfl ?_
        refine wp_iinc (v := (-1)) (ls' := [(10, .int (v10 + (-1))), (9, .int (I 4 r13.toNatClampNeg)), (8, .int (v8 ||| ((1 : Int32) <<< (r13 &&& 31)))), (11, .int r13), (0, .ref 30), (1, .int k1), (7, .int k7)]) dX6_bestOf_134 rfl (by decide) (Nat.le_of_ble_eq_true rfl) rfl ?_
        refine wp_goto (tgt := 87) dX6_bestOf_137 (by decide) ?_
        exact wp_pick (ks := [4, 5, 6, 2, 1, 0]) rfl (ih _ _ _ _ h kx kr)
      · have h := ite_t hc15 h
        refine wp_iconst (v := 0) dX6_bestOf_111 (by decide) ?_
        exact wp_iret dX6_bestOf_112 rfl (kr _ _ (sji h).symm)
set_option maxHeartbeats 4000000 in
set_option maxRecDepth 100000 in
theorem ct_X6_bestOf (N : Nat) (d : Nat) (hd : 2 ≤ d) {S : gS} {J : gJ} (hS : Sh S)  {a2 : Int32} {a3 : Int32} {a4 : Int32} {a5 : Int32} {I : gI} {r : Int32 × gI} (h : mX6_bestOf N a2 a3 a4 a5 I = some r) : Ct yX6_bestOf (wsY yX6_bestOf cX6_bestOf 12 (some .int)) d 0 0 [.ref 30, .int a2, .int a3, .int a4, .int a5] S I J (qE (.inl (some (.int r.1))) S r.2 J) := by
  refine Ct.of hF (fun _ _ _ _ _ => trivial) (by decide +kernel) (Nat.le_of_ble_eq_true rfl) ⟨Or.inl (sn30 hS), trivial, trivial, trivial, trivial, trivial⟩ ?_
  show Wp RX6 cX6_bestOf 12 (some .int) [] hF d 0 0 0 [(0, .ref 30), (1, .int a2), (2, .int a3), (3, .int a4), (4, .int a5)] [] S I J _
  unfold mX6_bestOf at h
  refine wp_aload_n dX6_bestOf_0 rfl rfl ?_
  refine wp_iload_n dX6_bestOf_1 rfl rfl ?_
  refine wp_iload_n dX6_bestOf_2 rfl rfl ?_
  refine wp_iload_n dX6_bestOf_3 rfl rfl ?_
  refine wp_iload dX6_bestOf_4 rfl ?_
  obtain ⟨⟨r1, I2⟩, hF3, h⟩ := obi h
  refine wp_callVi (ci := 6) (As := [.int a2, .int a3, .int a4, .int a5]) dX6_bestOf_6 lbX6_leastMetric mlX6_56 imX6_leastMetric seX6_leastMetric vc6 (ct_X6_leastMetric N 1 (Nat.le_refl _) hS  hF3) rfl rfl (Nat.le_trans (by decide) hd) (sk30 hS) (sn30 hS) (Nat.le_of_ble_eq_true rfl) (fun _ => ?_)
  refine wp_istore (ls' := [(5, .int r1), (0, .ref 30), (1, .int a2), (2, .int a3), (3, .int a4), (4, .int a5)]) dX6_bestOf_9 (Nat.le_of_ble_eq_true rfl) rfl ?_
  refine wp_iload dX6_bestOf_11 rfl ?_
  refine wp_ldc dX6_bestOf_13 koX6_43 ?_
  refine wp_icmp_lt (tgt := 20) dX6_bestOf_15 (by decide) (fun hc4 => ?_) (fun hc4 => ?_)
  · have h := ite_t hc4 h
    refine wp_iconst (v := 0) dX6_bestOf_20 (by decide) ?_
    refine wp_istore (ls' := [(6, .int 0), (5, .int r1), (0, .ref 30), (1, .int a2), (2, .int a3), (3, .int a4), (4, .int a5)]) dX6_bestOf_21 (Nat.le_of_ble_eq_true rfl) rfl ?_
    obtain ⟨y8, hL922, h⟩ := obi h
    refine wp_pick (ks := [2, 3, 4, 5, 1, 0]) rfl (wX6_bestOf_23 d hd hS  a2 a3 a4 r1 I2 N 0 _ hL922 (fun _ e23 => ?_))
    cases e23
    refine wp_aload_n dX6_bestOf_55 rfl rfl ?_
    refine wp_iload_n dX6_bestOf_56 rfl rfl ?_
    refine wp_iload_n dX6_bestOf_57 rfl rfl ?_
    refine wp_iload dX6_bestOf_58 rfl ?_
    obtain ⟨I9, hF10, h⟩ := obi h
    refine wp_callVv (ci := 6) (As := [.int a2, .int a4, .int y8]) dX6_bestOf_60 lbX6_spanBestWays mlX6_60 imX6_spanBestWays seX6_spanBestWays vc6 (ct_X6_spanBestWays N 1 (Nat.le_refl _) hS  hF10) rfl rfl (Nat.le_trans (by decide) hd) (sk30 hS) (sn30 hS) (Nat.le_of_ble_eq_true rfl) (fun _ => ?_)
    refine wp_aload_n dX6_bestOf_63 rfl rfl ?_
    refine wp_getR dX6_bestOf_64 flX6_18 rfl (sk30 hS) (sn30 hS) (sr30_3 hS) ?_
    refine wp_iload dX6_bestOf_67 rfl ?_
    refine wp_bipush (v := 8) dX6_bestOf_69 (by decide) ?_
    refine wp_imul dX6_bestOf_71 ?_
    refine wp_iload_n dX6_bestOf_72 rfl rfl ?_
    refine wp_iadd dX6_bestOf_73 ?_
    obtain ⟨hb11, h⟩ := ck_inv h
    refine wp_iald dX6_bestOf_74 (sk33 hS) (sn33 hS) hb11 ?_
    refine wp_istore (ls' := [(7, .int (I9 33 ((y8 * 8) + a3).toNatClampNeg)), (0, .ref 30), (1, .int a2), (2, .int a3), (3, .int a4), (6, .int y8)]) dX6_bestOf_75 (Nat.le_of_ble_eq_true rfl) rfl ?_
    refine wp_iconst (v := 0) dX6_bestOf_77 (by decide) ?_
    refine wp_istore (ls' := [(8, .int 0), (7, .int (I9 33 ((y8 * 8) + a3).toNatClampNeg)), (0, .ref 30), (1, .int a2), (2, .int a3), (3, .int a4), (6, .int y8)]) dX6_bestOf_78 (Nat.le_of_ble_eq_true rfl) rfl ?_
    refine wp_iload_n dX6_bestOf_80 rfl rfl ?_
    refine wp_istore (ls' := [(9, .int a3), (8, .int 0), (7, .int (I9 33 ((y8 * 8) + a3).toNatClampNeg)), (0, .ref 30), (1, .int a2), (2, .int a3), (3, .int a4), (6, .int y8)]) dX6_bestOf_81 (Nat.le_of_ble_eq_true rfl) rfl ?_
    refine wp_iload dX6_bestOf_83 rfl ?_
    refine wp_istore (ls' := [(10, .int y8), (9, .int a3), (8, .int 0), (7, .int (I9 33 ((y8 * 8) + a3).toNatClampNeg)), (0, .ref 30), (1, .int a2), (2, .int a3), (3, .int a4), (6, .int y8)]) dX6_bestOf_85 (Nat.le_of_ble_eq_true rfl) rfl ?_
    rcases lbi h with ⟨y17, hL918, h⟩ | ⟨⟨r20, I21⟩, hL918, h⟩
    · refine wp_pick (ks := [4, 5, 3, 2, 1, 0]) rfl (wX6_bestOf_87 N d hd hS  a2 (I9 33 ((y8 * 8) + a3).toNatClampNeg) I9 N 0 a3 y8 _ hL918 (fun _ e19 => ?_) (fun _ _ e9 => by cases e9))
      cases e19
      refine wp_iload dX6_bestOf_140 rfl ?_
      exact wp_iret dX6_bestOf_142 rfl (by obtain rfl := sji h; exact ⟨rfl, rfl, rfl, rfl⟩)
    · refine wp_pick (ks := [4, 5, 3, 2, 1, 0]) rfl (wX6_bestOf_87 N d hd hS  a2 (I9 33 ((y8 * 8) + a3).toNatClampNeg) I9 N 0 a3 y8 _ hL918 (fun _ e9 => by cases e9) (fun _ _ e19 => ?_))
      cases e19
      exact (by obtain rfl := sji h; exact ⟨rfl, rfl, rfl, rfl⟩)
  · have h := ite_f hc4 h
    refine wp_iconst (v := 0) dX6_bestOf_18 (by decide) ?_
    exact wp_iret dX6_bestOf_19 rfl (by obtain rfl := sji h; exact ⟨rfl, rfl, rfl, rfl⟩)
def mX2_bestWay (N : Nat) (u1 : Nat) (a2 : Int32) (a3 : Int32) (a4 : Int32) (I : gI) : Option (Int32 × gI) := Option.bind (mX2_fitting N u1 a2 a3 a4 I) (fun r1 => Option.bind (mX2_showPools N u1 a2 7 I) (fun I3 => ck a2 9 (Option.bind (mX6_bestOf N r1 (I3 8 a2.toNatClampNeg) (I3 9 a2.toNatClampNeg) (I3 14 a2.toNatClampNeg) I3) (fun (r6, I7) => some (r6, I7)))))
set_option maxHeartbeats 4000000 in
set_option maxRecDepth 100000 in
theorem ct_X2_bestWay (N : Nat) (d : Nat) (hd : 3 ≤ d) {S : gS} {J : gJ} (hS : Sh S) {t1 : Nat} {u1 : Nat} (hL1 : IsLe S t1 u1) {a2 : Int32} {a3 : Int32} {a4 : Int32} {I : gI} {r : Int32 × gI} (h : mX2_bestWay N u1 a2 a3 a4 I = some r) : Ct yX2_bestWay (wsY yX2_bestWay cX2_bestWay 5 (some .int)) d 0 0 [.ref t1, .int a2, .int a3, .int a4] S I J (qE (.inl (some (.int r.1))) S r.2 J) := by
  refine Ct.of hF (fun _ _ _ _ _ => trivial) (by decide +kernel) (Nat.le_of_ble_eq_true rfl) ⟨Or.inl hL1.1.2.1, trivial, trivial, trivial, trivial⟩ ?_
  show Wp RX2 cX2_bestWay 5 (some .int) [] hF d 0 0 0 [(0, .ref t1), (1, .int a2), (2, .int a3), (3, .int a4)] [] S I J _
  unfold mX2_bestWay at h
  refine wp_aload_n dX2_bestWay_0 rfl rfl ?_
  refine wp_iload_n dX2_bestWay_1 rfl rfl ?_
  refine wp_iload_n dX2_bestWay_2 rfl rfl ?_
  refine wp_iload_n dX2_bestWay_3 rfl rfl ?_
  obtain ⟨r1, hF2, h⟩ := obi h
  refine wp_callVi (ci := 2) (As := [.int a2, .int a3, .int a4]) dX2_bestWay_4 lbX2_fitting mlX2_97 imX2_fitting seX2_fitting vc2 (ct_X2_fitting N 1 (Nat.le_refl _) hS hL1 hF2) rfl rfl (Nat.le_trans (by decide) hd) hL1.1.1 hL1.1.2.1 (Nat.le_of_ble_eq_true rfl) (fun _ => ?_)
  refine wp_istore (ls' := [(4, .int r1), (0, .ref t1), (1, .int a2), (2, .int a3), (3, .int a4)]) dX2_bestWay_7 (Nat.le_of_ble_eq_true rfl) rfl ?_
  refine wp_aload_n dX2_bestWay_9 rfl rfl ?_
  refine wp_iload_n dX2_bestWay_10 rfl rfl ?_
  refine wp_bipush (v := 7) dX2_bestWay_11 (by decide) ?_
  obtain ⟨I3, hF4, h⟩ := obi h
  refine wp_callVv (ci := 2) (As := [.int a2, .int 7]) dX2_bestWay_13 lbX2_showPools mlX2_100 imX2_showPools seX2_showPools vc2 (ct_X2_showPools N 1 (Nat.le_refl _) hS hL1 hF4) rfl rfl (Nat.le_trans (by decide) hd) hL1.1.1 hL1.1.2.1 (Nat.le_of_ble_eq_true rfl) (fun _ => ?_)
  refine wp_aload_n dX2_bestWay_16 rfl rfl ?_
  refine wp_getR dX2_bestWay_17 flX2_15 rfl hL1.1.1 hL1.1.2.1 hL1.1.2.2.2.1 ?_
  refine wp_iload dX2_bestWay_20 rfl ?_
  refine wp_aload_n dX2_bestWay_22 rfl rfl ?_
  refine wp_getR dX2_bestWay_23 flX2_9 rfl hL1.1.1 hL1.1.2.1 hL1.1.2.2.1 ?_
  refine wp_getR dX2_bestWay_26 flX2_78 rfl (sk2 hS) (sn2 hS) (sr2_8 hS) ?_
  refine wp_iload_n dX2_bestWay_29 rfl rfl ?_
  obtain ⟨hb5, h⟩ := ck_inv h
  refine wp_iald dX2_bestWay_30 (sk8 hS) (sn8 hS) hb5 ?_
  refine wp_aload_n dX2_bestWay_31 rfl rfl ?_
  refine wp_getR dX2_bestWay_32 flX2_9 rfl hL1.1.1 hL1.1.2.1 hL1.1.2.2.1 ?_
  refine wp_getR dX2_bestWay_35 flX2_81 rfl (sk2 hS) (sn2 hS) (sr2_9 hS) ?_
  refine wp_iload_n dX2_bestWay_38 rfl rfl ?_
  refine wp_iald dX2_bestWay_39 (sk9 hS) (sn9 hS) hb5 ?_
  refine wp_aload_n dX2_bestWay_40 rfl rfl ?_
  refine wp_getR dX2_bestWay_41 flX2_9 rfl hL1.1.1 hL1.1.2.1 hL1.1.2.2.1 ?_
  refine wp_getR dX2_bestWay_44 flX2_84 rfl (sk2 hS) (sn2 hS) (sr2_14 hS) ?_
  refine wp_iload_n dX2_bestWay_47 rfl rfl ?_
  refine wp_iald dX2_bestWay_48 (sk14 hS) (sn14 hS) hb5 ?_
  obtain ⟨⟨r6, I7⟩, hF8, h⟩ := obi h
  refine wp_callVNi (ci := 6) (As := [.int r1, .int (I3 8 a2.toNatClampNeg), .int (I3 9 a2.toNatClampNeg), .int (I3 14 a2.toNatClampNeg)]) dX2_bestWay_49 lbX6_bestOf mnX2_104 imX6_bestOf seX6_bestOf vc6 (ct_X6_bestOf N 2 (Nat.le_refl _) hS  hF8) rfl rfl (Nat.le_trans (by decide) hd) (sk30 hS) (sn30 hS) (Nat.le_of_ble_eq_true rfl) (fun _ => ?_)
  exact wp_iret dX2_bestWay_52 rfl (by obtain rfl := sji h; exact ⟨rfl, rfl, rfl, rfl⟩)
def mX2_bestNow (N : Nat) (u1 : Nat) (a2 : Int32) (I : gI) : Option (Int32 × gI) := ck a2 9 (Option.bind (mX2_bestWay N u1 a2 (I (u1 + 2) a2.toNatClampNeg) (I 11 a2.toNatClampNeg) I) (fun (r2, I3) => some (r2, I3)))
set_option maxHeartbeats 4000000 in
set_option maxRecDepth 100000 in
theorem ct_X2_bestNow (N : Nat) (d : Nat) (hd : 4 ≤ d) {S : gS} {J : gJ} (hS : Sh S) {t1 : Nat} {u1 : Nat} (hL1 : IsLe S t1 u1) {a2 : Int32} {I : gI} {r : Int32 × gI} (h : mX2_bestNow N u1 a2 I = some r) : Ct yX2_bestNow (wsY yX2_bestNow cX2_bestNow 2 (some .int)) d 0 0 [.ref t1, .int a2] S I J (qE (.inl (some (.int r.1))) S r.2 J) := by
  refine Ct.of hF (fun _ _ _ _ _ => trivial) (by decide +kernel) (Nat.le_of_ble_eq_true rfl) ⟨Or.inl hL1.1.2.1, trivial, trivial⟩ ?_
  show Wp RX2 cX2_bestNow 2 (some .int) [] hF d 0 0 0 [(0, .ref t1), (1, .int a2)] [] S I J _
  unfold mX2_bestNow at h
  refine wp_aload_n dX2_bestNow_0 rfl rfl ?_
  refine wp_iload_n dX2_bestNow_1 rfl rfl ?_
  refine wp_aload_n dX2_bestNow_2 rfl rfl ?_
  refine wp_getR dX2_bestNow_3 flX2_19 rfl hL1.1.1 hL1.1.2.1 hL1.1.2.2.2.2 ?_
  refine wp_getR dX2_bestNow_6 flX2_45 rfl hL1.2.1 hL1.2.n0 hL1.2.2.2.2.2.2 ?_
  refine wp_iload_n dX2_bestNow_9 rfl rfl ?_
  obtain ⟨hb1, h⟩ := ck_inv h
  refine wp_iald dX2_bestNow_10 hL1.2.2.2.2.1 hL1.2.n2 hb1 ?_
  refine wp_aload_n dX2_bestNow_11 rfl rfl ?_
  refine wp_getR dX2_bestNow_12 flX2_9 rfl hL1.1.1 hL1.1.2.1 hL1.1.2.2.1 ?_
  refine wp_getR dX2_bestNow_15 flX2_91 rfl (sk2 hS) (sn2 hS) (sr2_11 hS) ?_
  refine wp_iload_n dX2_bestNow_18 rfl rfl ?_
  refine wp_iald dX2_bestNow_19 (sk11 hS) (sn11 hS) hb1 ?_
  obtain ⟨⟨r2, I3⟩, hF4, h⟩ := obi h
  refine wp_callVi (ci := 2) (As := [.int a2, .int (I (u1 + 2) a2.toNatClampNeg), .int (I 11 a2.toNatClampNeg)]) dX2_bestNow_20 lbX2_bestWay mlX2_94 imX2_bestWay seX2_bestWay vc2 (ct_X2_bestWay N 3 (Nat.le_refl _) hS hL1 hF4) rfl rfl (Nat.le_trans (by decide) hd) hL1.1.1 hL1.1.2.1 (Nat.le_of_ble_eq_true rfl) (fun _ => ?_)
  exact wp_iret dX2_bestNow_23 rfl (by obtain rfl := sji h; exact ⟨rfl, rfl, rfl, rfl⟩)
def mX6_reaches_31 (k1 : Int32) (k3 : Int32) (k4 : Int32) (k6 : Int32) (k7 : Int32) (I : gI) : Nat → Int32 → Int32 → Option (Int32)
  | 0, _, _ => none
  | n + 1, v5, v8 => if (I 2 1) ≤ v8 then (some v5) else (ck v8 16 (nm (((ushr k1 v8) &&& (ushr k7 (I 3 v8.toNatClampNeg))) &&& 1) (fun x5 => if x5 = 0 then (mX6_reaches_31 k1 k3 k4 k6 k7 I n v5 (v8 + 1)) else (mX6_reaches_31 k1 k3 k4 k6 k7 I n (v5 ||| ((1 : Int32) <<< ((I 4 v8.toNatClampNeg) &&& 31))) (v8 + 1)))))
def mX6_reaches_8 (N : Nat) (k1 : Int32) (k3 : Int32) (k4 : Int32) (I : gI) : Nat → Int32 → Int32 → Option (Int32)
  | 0, _, _ => none
  | n + 1, v5, v6 => if k4 ≤ v6 then (some v5) else (if ((ushr v5 k3) &&& 1) = 0 then (Option.bind (mX6_reaches_31 k1 k3 k4 v6 v5 I N v5 0) (fun y8 => if y8 = v5 then (some y8) else (mX6_reaches_8 N k1 k3 k4 I n y8 (v6 + 1)))) else (some v5))
def mX6_reaches (N : Nat) (a2 : Int32) (a3 : Int32) (a4 : Int32) (a5 : Int32) (I : gI) : Option (Int32) := Option.bind (mX6_reaches_8 N a2 a4 a5 I N ((1 : Int32) <<< (a3 &&& 31)) 0) (fun y12 => if ((ushr y12 a4) &&& 1) = 0 then (some 0) else (some 1))
set_option maxHeartbeats 4000000 in
set_option maxRecDepth 100000 in
theorem wX6_reaches_31 (d : Nat) (hd : 0 ≤ d) {S : gS} {J : gJ} (hS : Sh S)  (k1 : Int32) (k3 : Int32) (k4 : Int32) (k6 : Int32) (k7 : Int32) (I : gI) {Q : gO → gS → gI → gJ → Prop} :
    ∀ (n : Nat) (v5 : Int32) (v8 : Int32) (res : Int32), mX6_reaches_31 k1 k3 k4 k6 k7 I n v5 v8 = some res → (∀ (o5 : Int32), res = o5 → Wp RX6 cX6_reaches 9 (some .boolean) [] hF d 0 0 89 [(0, .ref 30), (1, .int k1), (3, .int k3), (4, .int k4), (5, .int o5), (6, .int k6), (7, .int k7)] [] S I J Q) → Wp RX6 cX6_reaches 9 (some .boolean) [] hF d 0 0 31 [(0, .ref 30), (1, .int k1), (3, .int k3), (4, .int k4), (5, .int v5), (6, .int k6), (7, .int k7), (8, .int v8)] [] S I J Q := by
  intro n
  induction n with
  | zero => intro v5 v8 res h; exact nso h
  | succ n ih =>
    intro v5 v8 res h kx
    rw [mX6_reaches_31] at h
    refine wp_iload dX6_reaches_31 rfl ?_
    refine wp_aload_n dX6_reaches_33 rfl rfl ?_
    refine wp_getR dX6_reaches_34 flX6_27 rfl (sk30 hS) (sn30 hS) (sr30_0 hS) ?_
    refine wp_getI dX6_reaches_37 flX6_31 rfl (sk2 hS) (sn2 hS) ?_
    refine wp_icmp_ge (tgt := 89) dX6_reaches_40 (by decide) (fun hc3 => ?_) (fun hc3 => ?_)
    · have h := ite_t hc3 h
      exact wp_pick (ks := [0, 1, 2, 3, 4, 5, 6]) rfl (kx _ (sji h).symm)
    · have h := ite_f hc3 h
      refine wp_iload_n dX6_reaches_43 rfl rfl ?_
      refine wp_iload dX6_reaches_44 rfl ?_
      refine wp_iushr dX6_reaches_46 ?_
      refine wp_iload dX6_reaches_47 rfl ?_
      refine wp_aload_n dX6_reaches_49 rfl rfl ?_
      refine wp_getR dX6_reaches_50 flX6_27 rfl (sk30 hS) (sn30 hS) (sr30_0 hS) ?_
      refine wp_getR dX6_reaches_53 flX6_37 rfl (sk2 hS) (sn2 hS) (sr2_3 hS) ?_
      refine wp_iload dX6_reaches_56 rfl ?_
      obtain ⟨hb4, h⟩ := ck_inv h
      refine wp_iald dX6_reaches_58 (sk3 hS) (sn3 hS) hb4 ?_
      refine wp_iushr dX6_reaches_59 ?_
      refine wp_iand dX6_reaches_60 ?_
      refine wp_iconst (v := 1) dX6_reaches_61 (by decide) ?_
      refine wp_iand dX6_reaches_62 ?_
      obtain ⟨x5, hx6, h⟩ := nm_inv h
      refine wp_topi hx6 ?_
      refine wp_if_eq (tgt := 83) dX6_reaches_63 (by decide) (fun hc7 => ?_) (fun hc7 => ?_)
      · have h := ite_t hc7 h
        refine wp_iinc (v := 1) (ls' := [(8, .int (v8 + 1)), (0, .ref 30), (1, .int k1), (3, .int k3), (4, .int k4), (5, .int v5), (6, .int k6), (7, .int k7)]) dX6_reaches_83 rfl (by decide) (Nat.le_of_ble_eq_true rfl) rfl ?_
        refine wp_goto (tgt := 31) dX6_reaches_86 (by decide) ?_
        exact wp_pick (ks := [1, 2, 3, 4, 5, 6, 7, 0]) rfl (ih _ _ _ h kx)
      · have h := ite_f hc7 h
        refine wp_iload dX6_reaches_66 rfl ?_
        refine wp_iconst (v := 1) dX6_reaches_68 (by decide) ?_
        refine wp_aload_n dX6_reaches_69 rfl rfl ?_
        refine wp_getR dX6_reaches_70 flX6_27 rfl (sk30 hS) (sn30 hS) (sr30_0 hS) ?_
        refine wp_getR dX6_reaches_73 flX6_40 rfl (sk2 hS) (sn2 hS) (sr2_4 hS) ?_
        refine wp_iload dX6_reaches_76 rfl ?_
        refine wp_iald dX6_reaches_78 (sk4 hS) (sn4 hS) hb4 ?_
        refine wp_ishl dX6_reaches_79 ?_
        refine wp_ior dX6_reaches_80 ?_
        refine wp_istore (ls' := [(5, .int (v5 ||| ((1 : Int32) <<< ((I 4 v8.toNatClampNeg) &&& 31)))), (0, .ref 30), (1, .int k1), (3, .int k3), (4, .int k4), (6, .int k6), (7, .int k7), (8, .int v8)]) dX6_reaches_81 (Nat.le_of_ble_eq_true rfl) rfl ?_
        refine wp_iinc (v := 1) (ls' := [(8, .int (v8 + 1)), (5, .int (v5 ||| ((1 : Int32) <<< ((I 4 v8.toNatClampNeg) &&& 31)))), (0, .ref 30), (1, .int k1), (3, .int k3), (4, .int k4), (6, .int k6), (7, .int k7)]) dX6_reaches_83 rfl (by decide) (Nat.le_of_ble_eq_true rfl) rfl ?_
        refine wp_goto (tgt := 31) dX6_reaches_86 (by decide) ?_
        exact wp_pick (ks := [2, 3, 4, 5, 1, 6, 7, 0]) rfl (ih _ _ _ h kx)
set_option maxHeartbeats 4000000 in
set_option maxRecDepth 100000 in
theorem wX6_reaches_8 (N : Nat) (d : Nat) (hd : 0 ≤ d) {S : gS} {J : gJ} (hS : Sh S)  (k1 : Int32) (k3 : Int32) (k4 : Int32) (I : gI) {Q : gO → gS → gI → gJ → Prop} :
    ∀ (n : Nat) (v5 : Int32) (v6 : Int32) (res : Int32), mX6_reaches_8 N k1 k3 k4 I n v5 v6 = some res → (∀ (o5 : Int32), res = o5 → Wp RX6 cX6_reaches 9 (some .boolean) [] hF d 0 0 105 [(3, .int k3), (5, .int o5)] [] S I J Q) → Wp RX6 cX6_reaches 9 (some .boolean) [] hF d 0 0 8 [(0, .ref 30), (1, .int k1), (3, .int k3), (4, .int k4), (5, .int v5), (6, .int v6)] [] S I J Q := by
  intro n
  induction n with
  | zero => intro v5 v6 res h; exact nso h
  | succ n ih =>
    intro v5 v6 res h kx
    rw [mX6_reaches_8] at h
    refine wp_iload dX6_reaches_8 rfl ?_
    refine wp_iload dX6_reaches_10 rfl ?_
    refine wp_icmp_ge (tgt := 105) dX6_reaches_12 (by decide) (fun hc1 => ?_) (fun hc1 => ?_)
    · have h := ite_t hc1 h
      exact wp_pick (ks := [2, 4]) rfl (kx _ (sji h).symm)
    · have h := ite_f hc1 h
      refine wp_iload dX6_reaches_15 rfl ?_
      refine wp_iload_n dX6_reaches_17 rfl rfl ?_
      refine wp_iushr dX6_reaches_18 ?_
      refine wp_iconst (v := 1) dX6_reaches_19 (by decide) ?_
      refine wp_iand dX6_reaches_20 ?_
      refine wp_if_ne (tgt := 105) dX6_reaches_21 (by decide) (fun hc2 => ?_) (fun hc2 => ?_)
      · have h := ite_f hc2 h
        exact wp_pick (ks := [2, 4]) rfl (kx _ (sji h).symm)
      · have h := ite_t hc2 h
        refine wp_iload dX6_reaches_24 rfl ?_
        refine wp_istore (ls' := [(7, .int v5), (0, .ref 30), (1, .int k1), (3, .int k3), (4, .int k4), (5, .int v5), (6, .int v6)]) dX6_reaches_26 (Nat.le_of_ble_eq_true rfl) rfl ?_
        refine wp_iconst (v := 0) dX6_reaches_28 (by decide) ?_
        refine wp_istore (ls' := [(8, .int 0), (7, .int v5), (0, .ref 30), (1, .int k1), (3, .int k3), (4, .int k4), (5, .int v5), (6, .int v6)]) dX6_reaches_29 (Nat.le_of_ble_eq_true rfl) rfl ?_
        obtain ⟨y8, hL910, h⟩ := obi h
        refine wp_pick (ks := [2, 3, 4, 5, 6, 7, 1, 0]) rfl (wX6_reaches_31 d hd hS  k1 k3 k4 v6 v5 I N v5 0 _ hL910 (fun _ e11 => ?_))
        cases e11
        refine wp_iload dX6_reaches_89 rfl ?_
        refine wp_iload dX6_reaches_91 rfl ?_
        refine wp_icmp_ne (tgt := 99) dX6_reaches_93 (by decide) (fun hc9 => ?_) (fun hc9 => ?_)
        · have h := ite_f hc9 h
          refine wp_iinc (v := 1) (ls' := [(6, .int (v6 + 1)), (0, .ref 30), (1, .int k1), (3, .int k3), (4, .int k4), (5, .int y8), (7, .int v5)]) dX6_reaches_99 rfl (by decide) (Nat.le_of_ble_eq_true rfl) rfl ?_
          refine wp_goto (tgt := 8) dX6_reaches_102 (by decide) ?_
          exact wp_pick (ks := [1, 2, 3, 4, 5, 0]) rfl (ih _ _ _ h kx)
        · have h := ite_t hc9 h
          refine wp_goto (tgt := 105) dX6_reaches_96 (by decide) ?_
          exact wp_pick (ks := [2, 4]) rfl (kx _ (sji h).symm)
set_option maxHeartbeats 4000000 in
set_option maxRecDepth 100000 in
theorem ct_X6_reaches (N : Nat) (d : Nat) (hd : 0 ≤ d) {S : gS} {J : gJ} (hS : Sh S)  {a2 : Int32} {a3 : Int32} {a4 : Int32} {a5 : Int32} {I : gI} {r : Int32} (h : mX6_reaches N a2 a3 a4 a5 I = some r) : Ct yX6_reaches (wsY yX6_reaches cX6_reaches 9 (some .boolean)) d 0 0 [.ref 30, .int a2, .int a3, .int a4, .int a5] S I J (qE (.inl (some (.int r))) S I J) := by
  refine Ct.of hF (fun _ _ _ _ _ => trivial) (by decide +kernel) (Nat.le_of_ble_eq_true rfl) ⟨Or.inl (sn30 hS), trivial, trivial, trivial, trivial, trivial⟩ ?_
  show Wp RX6 cX6_reaches 9 (some .boolean) [] hF d 0 0 0 [(0, .ref 30), (1, .int a2), (2, .int a3), (3, .int a4), (4, .int a5)] [] S I J _
  unfold mX6_reaches at h
  refine wp_iconst (v := 1) dX6_reaches_0 (by decide) ?_
  refine wp_iload_n dX6_reaches_1 rfl rfl ?_
  refine wp_ishl dX6_reaches_2 ?_
  refine wp_istore (ls' := [(5, .int ((1 : Int32) <<< (a3 &&& 31))), (0, .ref 30), (1, .int a2), (2, .int a3), (3, .int a4), (4, .int a5)]) dX6_reaches_3 (Nat.le_of_ble_eq_true rfl) rfl ?_
  refine wp_iconst (v := 0) dX6_reaches_5 (by decide) ?_
  refine wp_istore (ls' := [(6, .int 0), (5, .int ((1 : Int32) <<< (a3 &&& 31))), (0, .ref 30), (1, .int a2), (2, .int a3), (3, .int a4), (4, .int a5)]) dX6_reaches_6 (Nat.le_of_ble_eq_true rfl) rfl ?_
  obtain ⟨y12, hL914, h⟩ := obi h
  refine wp_pick (ks := [2, 3, 5, 6, 1, 0]) rfl (wX6_reaches_8 N d hd hS  a2 a4 a5 I N ((1 : Int32) <<< (a3 &&& 31)) 0 _ hL914 (fun _ e15 => ?_))
  cases e15
  refine wp_iload dX6_reaches_105 rfl ?_
  refine wp_iload_n dX6_reaches_107 rfl rfl ?_
  refine wp_iushr dX6_reaches_108 ?_
  refine wp_iconst (v := 1) dX6_reaches_109 (by decide) ?_
  refine wp_iand dX6_reaches_110 ?_
  refine wp_if_eq (tgt := 118) dX6_reaches_111 (by decide) (fun hc13 => ?_) (fun hc13 => ?_)
  · have h := ite_t hc13 h
    refine wp_iconst (v := 0) dX6_reaches_118 (by decide) ?_
    exact wp_zret dX6_reaches_119 rfl (by decide) (by obtain rfl := sji h; exact ⟨rfl, rfl, rfl, rfl⟩)
  · have h := ite_f hc13 h
    refine wp_iconst (v := 1) dX6_reaches_114 (by decide) ?_
    refine wp_goto (tgt := 119) dX6_reaches_115 (by decide) ?_
    exact wp_zret dX6_reaches_119 rfl (by decide) (by obtain rfl := sji h; exact ⟨rfl, rfl, rfl, rfl⟩)
def mX2_hasWayWithout (N : Nat) (u1 : Nat) (a2 : Int32) (a3 : Int32) (I : gI) : Option (Int32) := ck a2 9 (Option.bind (mX2_fitting N u1 a2 (I (u1 + 2) a2.toNatClampNeg) (I 11 a2.toNatClampNeg) I) (fun r2 => Option.bind (mX6_reaches N (r2 &&& (((1 : Int32) <<< (a3 &&& 31)) ^^^ (-1))) (I 8 a2.toNatClampNeg) (I 9 a2.toNatClampNeg) (I 14 a2.toNatClampNeg) I) (fun r4 => zo r4 (some r4))))
set_option maxHeartbeats 4000000 in
set_option maxRecDepth 100000 in
theorem ct_X2_hasWayWithout (N : Nat) (d : Nat) (hd : 2 ≤ d) {S : gS} {J : gJ} (hS : Sh S) {t1 : Nat} {u1 : Nat} (hL1 : IsLe S t1 u1) {a2 : Int32} {a3 : Int32} {I : gI} {r : Int32} (h : mX2_hasWayWithout N u1 a2 a3 I = some r) : Ct yX2_hasWayWithout (wsY yX2_hasWayWithout cX2_hasWayWithout 4 (some .boolean)) d 0 0 [.ref t1, .int a2, .int a3] S I J (qE (.inl (some (.int r))) S I J) := by
  refine Ct.of hF (fun _ _ _ _ _ => trivial) (by decide +kernel) (Nat.le_of_ble_eq_true rfl) ⟨Or.inl hL1.1.2.1, trivial, trivial, trivial⟩ ?_
  show Wp RX2 cX2_hasWayWithout 4 (some .boolean) [] hF d 0 0 0 [(0, .ref t1), (1, .int a2), (2, .int a3)] [] S I J _
  unfold mX2_hasWayWithout at h
  refine wp_aload_n dX2_hasWayWithout_0 rfl rfl ?_
  refine wp_iload_n dX2_hasWayWithout_1 rfl rfl ?_
  refine wp_aload_n dX2_hasWayWithout_2 rfl rfl ?_
  refine wp_getR dX2_hasWayWithout_3 flX2_19 rfl hL1.1.1 hL1.1.2.1 hL1.1.2.2.2.2 ?_
  refine wp_getR dX2_hasWayWithout_6 flX2_45 rfl hL1.2.1 hL1.2.n0 hL1.2.2.2.2.2.2 ?_
  refine wp_iload_n dX2_hasWayWithout_9 rfl rfl ?_
  obtain ⟨hb1, h⟩ := ck_inv h
  refine wp_iald dX2_hasWayWithout_10 hL1.2.2.2.2.1 hL1.2.n2 hb1 ?_
  refine wp_aload_n dX2_hasWayWithout_11 rfl rfl ?_
  refine wp_getR dX2_hasWayWithout_12 flX2_9 rfl hL1.1.1 hL1.1.2.1 hL1.1.2.2.1 ?_
  refine wp_getR dX2_hasWayWithout_15 flX2_91 rfl (sk2 hS) (sn2 hS) (sr2_11 hS) ?_
  refine wp_iload_n dX2_hasWayWithout_18 rfl rfl ?_
  refine wp_iald dX2_hasWayWithout_19 (sk11 hS) (sn11 hS) hb1 ?_
  obtain ⟨r2, hF3, h⟩ := obi h
  refine wp_callVi (ci := 2) (As := [.int a2, .int (I (u1 + 2) a2.toNatClampNeg), .int (I 11 a2.toNatClampNeg)]) dX2_hasWayWithout_20 lbX2_fitting mlX2_97 imX2_fitting seX2_fitting vc2 (ct_X2_fitting N 1 (Nat.le_refl _) hS hL1 hF3) rfl rfl (Nat.le_trans (by decide) hd) hL1.1.1 hL1.1.2.1 (Nat.le_of_ble_eq_true rfl) (fun _ => ?_)
  refine wp_iconst (v := 1) dX2_hasWayWithout_23 (by decide) ?_
  refine wp_iload_n dX2_hasWayWithout_24 rfl rfl ?_
  refine wp_ishl dX2_hasWayWithout_25 ?_
  refine wp_iconst (v := (-1)) dX2_hasWayWithout_26 (by decide) ?_
  refine wp_ixor dX2_hasWayWithout_27 ?_
  refine wp_iand dX2_hasWayWithout_28 ?_
  refine wp_istore_n (ls' := [(3, .int (r2 &&& (((1 : Int32) <<< (a3 &&& 31)) ^^^ (-1)))), (0, .ref t1), (1, .int a2), (2, .int a3)]) dX2_hasWayWithout_29 rfl (Nat.le_of_ble_eq_true rfl) rfl ?_
  refine wp_aload_n dX2_hasWayWithout_30 rfl rfl ?_
  refine wp_getR dX2_hasWayWithout_31 flX2_15 rfl hL1.1.1 hL1.1.2.1 hL1.1.2.2.2.1 ?_
  refine wp_iload_n dX2_hasWayWithout_34 rfl rfl ?_
  refine wp_aload_n dX2_hasWayWithout_35 rfl rfl ?_
  refine wp_getR dX2_hasWayWithout_36 flX2_9 rfl hL1.1.1 hL1.1.2.1 hL1.1.2.2.1 ?_
  refine wp_getR dX2_hasWayWithout_39 flX2_78 rfl (sk2 hS) (sn2 hS) (sr2_8 hS) ?_
  refine wp_iload_n dX2_hasWayWithout_42 rfl rfl ?_
  refine wp_iald dX2_hasWayWithout_43 (sk8 hS) (sn8 hS) hb1 ?_
  refine wp_aload_n dX2_hasWayWithout_44 rfl rfl ?_
  refine wp_getR dX2_hasWayWithout_45 flX2_9 rfl hL1.1.1 hL1.1.2.1 hL1.1.2.2.1 ?_
  refine wp_getR dX2_hasWayWithout_48 flX2_81 rfl (sk2 hS) (sn2 hS) (sr2_9 hS) ?_
  refine wp_iload_n dX2_hasWayWithout_51 rfl rfl ?_
  refine wp_iald dX2_hasWayWithout_52 (sk9 hS) (sn9 hS) hb1 ?_
  refine wp_aload_n dX2_hasWayWithout_53 rfl rfl ?_
  refine wp_getR dX2_hasWayWithout_54 flX2_9 rfl hL1.1.1 hL1.1.2.1 hL1.1.2.2.1 ?_
  refine wp_getR dX2_hasWayWithout_57 flX2_84 rfl (sk2 hS) (sn2 hS) (sr2_14 hS) ?_
  refine wp_iload_n dX2_hasWayWithout_60 rfl rfl ?_
  refine wp_iald dX2_hasWayWithout_61 (sk14 hS) (sn14 hS) hb1 ?_
  obtain ⟨r4, hF5, h⟩ := obi h
  refine wp_callVNi (ci := 6) (As := [.int (r2 &&& (((1 : Int32) <<< (a3 &&& 31)) ^^^ (-1))), .int (I 8 a2.toNatClampNeg), .int (I 9 a2.toNatClampNeg), .int (I 14 a2.toNatClampNeg)]) dX2_hasWayWithout_62 lbX6_reaches mnX2_107 imX6_reaches seX6_reaches vc6 (ct_X6_reaches N 0 (Nat.le_refl _) hS  hF5) rfl rfl (Nat.le_trans (by decide) hd) (sk30 hS) (sn30 hS) (Nat.le_of_ble_eq_true rfl) (fun _ => ?_)
  obtain ⟨hz6, h⟩ := zo_inv h
  exact wp_zret dX2_hasWayWithout_65 rfl hz6 (by obtain rfl := sji h; exact ⟨rfl, rfl, rfl, rfl⟩)
def mX2_drop_2 (u1 : Nat) (k1 : Int32) : Nat → Int32 → gI → Option (gI)
  | 0, _, _ => none
  | n + 1, v2, I => if (I 2 2) ≤ v2 then (some I) else (if ((ushr k1 v2) &&& 1) = 0 then (mX2_drop_2 u1 k1 n (v2 + 1) I) else (ck v2 9 (mX2_drop_2 u1 k1 n (v2 + 1) (upd2 I (u1 + 1) v2.toNatClampNeg 0))))
def mX2_drop (N : Nat) (u1 : Nat) (a2 : Int32) (I : gI) : Option (gI) := Option.bind (mX2_drop_2 u1 a2 N 0 I) (fun I4 => some I4)
set_option maxHeartbeats 4000000 in
set_option maxRecDepth 100000 in
theorem wX2_drop_2 (d : Nat) (hd : 0 ≤ d) {S : gS} {J : gJ} (hS : Sh S) (t1 : Nat) (u1 : Nat) (hL1 : IsLe S t1 u1) (k1 : Int32) {Q : gO → gS → gI → gJ → Prop} :
    ∀ (n : Nat) (v2 : Int32) (I : gI) (res : gI), mX2_drop_2 u1 k1 n v2 I = some res → (∀ (O : gI), res = O → Wp RX2 cX2_drop 3 none [] hF d 0 0 37 [] [] S O J Q) → Wp RX2 cX2_drop 3 none [] hF d 0 0 2 [(0, .ref t1), (1, .int k1), (2, .int v2)] [] S I J Q := by
  intro n
  induction n with
  | zero => intro v2 I res h; exact nso h
  | succ n ih =>
    intro v2 I res h kx
    rw [mX2_drop_2] at h
    refine wp_iload_n dX2_drop_2 rfl rfl ?_
    refine wp_aload_n dX2_drop_3 rfl rfl ?_
    refine wp_getR dX2_drop_4 flX2_9 rfl hL1.1.1 hL1.1.2.1 hL1.1.2.2.1 ?_
    refine wp_getI dX2_drop_7 flX2_23 rfl (sk2 hS) (sn2 hS) ?_
    refine wp_icmp_ge (tgt := 37) dX2_drop_10 (by decide) (fun hc1 => ?_) (fun hc1 => ?_)
    · have h := ite_t hc1 h
      exact wp_pick (ks := []) rfl (kx _ (sji h).symm)
    · have h := ite_f hc1 h
      refine wp_iload_n dX2_drop_13 rfl rfl ?_
      refine wp_iload_n dX2_drop_14 rfl rfl ?_
      refine wp_iushr dX2_drop_15 ?_
      refine wp_iconst (v := 1) dX2_drop_16 (by decide) ?_
      refine wp_iand dX2_drop_17 ?_
      refine wp_if_eq (tgt := 31) dX2_drop_18 (by decide) (fun hc2 => ?_) (fun hc2 => ?_)
      · have h := ite_t hc2 h
        refine wp_iinc (v := 1) (ls' := [(2, .int (v2 + 1)), (0, .ref t1), (1, .int k1)]) dX2_drop_31 rfl (by decide) (Nat.le_of_ble_eq_true rfl) rfl ?_
        refine wp_goto (tgt := 2) dX2_drop_34 (by decide) ?_
        exact wp_pick (ks := [1, 2, 0]) rfl (ih _ _ _ h kx)
      · have h := ite_f hc2 h
        refine wp_aload_n dX2_drop_21 rfl rfl ?_
        refine wp_getR dX2_drop_22 flX2_19 rfl hL1.1.1 hL1.1.2.1 hL1.1.2.2.2.2 ?_
        refine wp_getR dX2_drop_25 flX2_29 rfl hL1.2.1 hL1.2.n0 hL1.2.2.2.2.2.1 ?_
        refine wp_iload_n dX2_drop_28 rfl rfl ?_
        refine wp_iconst (v := 0) dX2_drop_29 (by decide) ?_
        obtain ⟨hb3, h⟩ := ck_inv h
        refine wp_iast dX2_drop_30 hL1.2.2.2.1 hL1.2.n1 hb3 ?_
        refine wp_iinc (v := 1) (ls' := [(2, .int (v2 + 1)), (0, .ref t1), (1, .int k1)]) dX2_drop_31 rfl (by decide) (Nat.le_of_ble_eq_true rfl) rfl ?_
        refine wp_goto (tgt := 2) dX2_drop_34 (by decide) ?_
        exact wp_pick (ks := [1, 2, 0]) rfl (ih _ _ _ h kx)
set_option maxHeartbeats 4000000 in
set_option maxRecDepth 100000 in
theorem ct_X2_drop (N : Nat) (d : Nat) (hd : 0 ≤ d) {S : gS} {J : gJ} (hS : Sh S) {t1 : Nat} {u1 : Nat} (hL1 : IsLe S t1 u1) {a2 : Int32} {I : gI} {r : gI} (h : mX2_drop N u1 a2 I = some r) : Ct yX2_drop (wsY yX2_drop cX2_drop 3 none) d 0 0 [.ref t1, .int a2] S I J (qE (.inl none) S r J) := by
  refine Ct.of hF (fun _ _ _ _ _ => trivial) (by decide +kernel) (Nat.le_of_ble_eq_true rfl) ⟨Or.inl hL1.1.2.1, trivial, trivial⟩ ?_
  show Wp RX2 cX2_drop 3 none [] hF d 0 0 0 [(0, .ref t1), (1, .int a2)] [] S I J _
  unfold mX2_drop at h
  refine wp_iconst (v := 0) dX2_drop_0 (by decide) ?_
  refine wp_istore_n (ls' := [(2, .int 0), (0, .ref t1), (1, .int a2)]) dX2_drop_1 rfl (Nat.le_of_ble_eq_true rfl) rfl ?_
  obtain ⟨I4, hL95, h⟩ := obi h
  refine wp_pick (ks := [1, 2, 0]) rfl (wX2_drop_2 d hd hS t1 u1 hL1 a2 N 0 I _ hL95 (fun _ e6 => ?_))
  cases e6
  exact wp_vret dX2_drop_37 rfl (by obtain rfl := sji h; exact ⟨rfl, rfl, rfl, rfl⟩)
def mX2_breakLink (N : Nat) (u1 : Nat) (a2 : Int32) (I : gI) : Option (Int32 × gI) := Option.bind (mX2_tunnelsOn N u1 a2 I) (fun r1 => Option.bind (mX2_drop N u1 r1 I) (fun I3 => some (r1, upd2 I3 u1 2 ((I3 u1 2) &&& (((1 : Int32) <<< (a2 &&& 31)) ^^^ (-1))))))
set_option maxHeartbeats 4000000 in
set_option maxRecDepth 100000 in
theorem ct_X2_breakLink (N : Nat) (d : Nat) (hd : 1 ≤ d) {S : gS} {J : gJ} (hS : Sh S) {t1 : Nat} {u1 : Nat} (hL1 : IsLe S t1 u1) {a2 : Int32} {I : gI} {r : Int32 × gI} (h : mX2_breakLink N u1 a2 I = some r) : Ct yX2_breakLink (wsY yX2_breakLink cX2_breakLink 3 (some .int)) d 0 0 [.ref t1, .int a2] S I J (qE (.inl (some (.int r.1))) S r.2 J) := by
  refine Ct.of hF (fun _ _ _ _ _ => trivial) (by decide +kernel) (Nat.le_of_ble_eq_true rfl) ⟨Or.inl hL1.1.2.1, trivial, trivial⟩ ?_
  show Wp RX2 cX2_breakLink 3 (some .int) [] hF d 0 0 0 [(0, .ref t1), (1, .int a2)] [] S I J _
  unfold mX2_breakLink at h
  refine wp_aload_n dX2_breakLink_0 rfl rfl ?_
  refine wp_iload_n dX2_breakLink_1 rfl rfl ?_
  obtain ⟨r1, hF2, h⟩ := obi h
  refine wp_callVi (ci := 2) (As := [.int a2]) dX2_breakLink_2 lbX2_tunnelsOn mlX2_111 imX2_tunnelsOn seX2_tunnelsOn vc2 (ct_X2_tunnelsOn N 0 (Nat.le_refl _) hS hL1 hF2) rfl rfl (Nat.le_trans (by decide) hd) hL1.1.1 hL1.1.2.1 (Nat.le_of_ble_eq_true rfl) (fun _ => ?_)
  refine wp_istore_n (ls' := [(2, .int r1), (0, .ref t1), (1, .int a2)]) dX2_breakLink_5 rfl (Nat.le_of_ble_eq_true rfl) rfl ?_
  refine wp_aload_n dX2_breakLink_6 rfl rfl ?_
  refine wp_iload_n dX2_breakLink_7 rfl rfl ?_
  obtain ⟨I3, hF4, h⟩ := obi h
  refine wp_callVv (ci := 2) (As := [.int r1]) dX2_breakLink_8 lbX2_drop mlX2_114 imX2_drop seX2_drop vc2 (ct_X2_drop N 0 (Nat.le_refl _) hS hL1 hF4) rfl rfl (Nat.le_trans (by decide) hd) hL1.1.1 hL1.1.2.1 (Nat.le_of_ble_eq_true rfl) (fun _ => ?_)
  refine wp_aload_n dX2_breakLink_11 rfl rfl ?_
  refine wp_getR dX2_breakLink_12 flX2_19 rfl hL1.1.1 hL1.1.2.1 hL1.1.2.2.2.2 ?_
  refine wp_dup dX2_breakLink_15 rfl ?_
  refine wp_getI dX2_breakLink_16 flX2_63 rfl hL1.2.1 hL1.2.n0 ?_
  refine wp_iconst (v := 1) dX2_breakLink_19 (by decide) ?_
  refine wp_iload_n dX2_breakLink_20 rfl rfl ?_
  refine wp_ishl dX2_breakLink_21 ?_
  refine wp_iconst (v := (-1)) dX2_breakLink_22 (by decide) ?_
  refine wp_ixor dX2_breakLink_23 ?_
  refine wp_iand dX2_breakLink_24 ?_
  refine wp_putI dX2_breakLink_25 (Or.inl fpX2_63) rfl ⟨rfl, rfl⟩ hL1.2.1 hL1.2.n0 ?_
  refine wp_iload_n dX2_breakLink_28 rfl rfl ?_
  exact wp_iret dX2_breakLink_29 rfl (by obtain rfl := sji h; exact ⟨rfl, rfl, rfl, rfl⟩)
def mX2_strongest_8 (u1 : Nat) (k1 : Int32) (I : gI) : Nat → Int32 → Int32 → Int32 → Option (Int32)
  | 0, _, _, _ => none
  | n + 1, v2, v3, v4 => if (I 2 2) ≤ v4 then (some v2) else (if ((ushr k1 v4) &&& 1) = 0 then (mX2_strongest_8 u1 k1 I n v2 v3 (v4 + 1)) else (ck v4 9 (if v3 ≤ (I 11 v4.toNatClampNeg) then (mX2_strongest_8 u1 k1 I n v2 v3 (v4 + 1)) else (mX2_strongest_8 u1 k1 I n v4 (I 11 v4.toNatClampNeg) (v4 + 1)))))
def mX2_strongest (N : Nat) (u1 : Nat) (a2 : Int32) (I : gI) : Option (Int32) := Option.bind (mX2_strongest_8 u1 a2 I N 0 1000000 0) (fun y5 => some y5)
set_option maxHeartbeats 4000000 in
set_option maxRecDepth 100000 in
theorem wX2_strongest_8 (d : Nat) (hd : 0 ≤ d) {S : gS} {J : gJ} (hS : Sh S) (t1 : Nat) (u1 : Nat) (hL1 : IsLe S t1 u1) (k1 : Int32) (I : gI) {Q : gO → gS → gI → gJ → Prop} :
    ∀ (n : Nat) (v2 : Int32) (v3 : Int32) (v4 : Int32) (res : Int32), mX2_strongest_8 u1 k1 I n v2 v3 v4 = some res → (∀ (o2 : Int32), res = o2 → Wp RX2 cX2_strongest 5 (some .int) [] hF d 0 0 63 [(2, .int o2)] [] S I J Q) → Wp RX2 cX2_strongest 5 (some .int) [] hF d 0 0 8 [(0, .ref t1), (1, .int k1), (2, .int v2), (3, .int v3), (4, .int v4)] [] S I J Q := by
  intro n
  induction n with
  | zero => intro v2 v3 v4 res h; exact nso h
  | succ n ih =>
    intro v2 v3 v4 res h kx
    rw [mX2_strongest_8] at h
    refine wp_iload dX2_strongest_8 rfl ?_
    refine wp_aload_n dX2_strongest_10 rfl rfl ?_
    refine wp_getR dX2_strongest_11 flX2_9 rfl hL1.1.1 hL1.1.2.1 hL1.1.2.2.1 ?_
    refine wp_getI dX2_strongest_14 flX2_23 rfl (sk2 hS) (sn2 hS) ?_
    refine wp_icmp_ge (tgt := 63) dX2_strongest_17 (by decide) (fun hc1 => ?_) (fun hc1 => ?_)
    · have h := ite_t hc1 h
      exact wp_pick (ks := [2]) rfl (kx _ (sji h).symm)
    · have h := ite_f hc1 h
      refine wp_iload_n dX2_strongest_20 rfl rfl ?_
      refine wp_iload dX2_strongest_21 rfl ?_
      refine wp_iushr dX2_strongest_23 ?_
      refine wp_iconst (v := 1) dX2_strongest_24 (by decide) ?_
      refine wp_iand dX2_strongest_25 ?_
      refine wp_if_eq (tgt := 57) dX2_strongest_26 (by decide) (fun hc2 => ?_) (fun hc2 => ?_)
      · have h := ite_t hc2 h
        refine wp_iinc (v := 1) (ls' := [(4, .int (v4 + 1)), (0, .ref t1), (1, .int k1), (2, .int v2), (3, .int v3)]) dX2_strongest_57 rfl (by decide) (Nat.le_of_ble_eq_true rfl) rfl ?_
        refine wp_goto (tgt := 8) dX2_strongest_60 (by decide) ?_
        exact wp_pick (ks := [1, 2, 3, 4, 0]) rfl (ih _ _ _ _ h kx)
      · have h := ite_f hc2 h
        refine wp_aload_n dX2_strongest_29 rfl rfl ?_
        refine wp_getR dX2_strongest_30 flX2_9 rfl hL1.1.1 hL1.1.2.1 hL1.1.2.2.1 ?_
        refine wp_getR dX2_strongest_33 flX2_91 rfl (sk2 hS) (sn2 hS) (sr2_11 hS) ?_
        refine wp_iload dX2_strongest_36 rfl ?_
        obtain ⟨hb3, h⟩ := ck_inv h
        refine wp_iald dX2_strongest_38 (sk11 hS) (sn11 hS) hb3 ?_
        refine wp_iload_n dX2_strongest_39 rfl rfl ?_
        refine wp_icmp_ge (tgt := 57) dX2_strongest_40 (by decide) (fun hc4 => ?_) (fun hc4 => ?_)
        · have h := ite_t hc4 h
          refine wp_iinc (v := 1) (ls' := [(4, .int (v4 + 1)), (0, .ref t1), (1, .int k1), (2, .int v2), (3, .int v3)]) dX2_strongest_57 rfl (by decide) (Nat.le_of_ble_eq_true rfl) rfl ?_
          refine wp_goto (tgt := 8) dX2_strongest_60 (by decide) ?_
          exact wp_pick (ks := [1, 2, 3, 4, 0]) rfl (ih _ _ _ _ h kx)
        · have h := ite_f hc4 h
          refine wp_aload_n dX2_strongest_43 rfl rfl ?_
          refine wp_getR dX2_strongest_44 flX2_9 rfl hL1.1.1 hL1.1.2.1 hL1.1.2.2.1 ?_
          refine wp_getR dX2_strongest_47 flX2_91 rfl (sk2 hS) (sn2 hS) (sr2_11 hS) ?_
          refine wp_iload dX2_strongest_50 rfl ?_
          refine wp_iald dX2_strongest_52 (sk11 hS) (sn11 hS) hb3 ?_
          refine wp_istore_n (ls' := [(3, .int (I 11 v4.toNatClampNeg)), (0, .ref t1), (1, .int k1), (2, .int v2), (4, .int v4)]) dX2_strongest_53 rfl (Nat.le_of_ble_eq_true rfl) rfl ?_
          refine wp_iload dX2_strongest_54 rfl ?_
          refine wp_istore_n (ls' := [(2, .int v4), (3, .int (I 11 v4.toNatClampNeg)), (0, .ref t1), (1, .int k1), (4, .int v4)]) dX2_strongest_56 rfl (Nat.le_of_ble_eq_true rfl) rfl ?_
          refine wp_iinc (v := 1) (ls' := [(4, .int (v4 + 1)), (2, .int v4), (3, .int (I 11 v4.toNatClampNeg)), (0, .ref t1), (1, .int k1)]) dX2_strongest_57 rfl (by decide) (Nat.le_of_ble_eq_true rfl) rfl ?_
          refine wp_goto (tgt := 8) dX2_strongest_60 (by decide) ?_
          exact wp_pick (ks := [3, 4, 1, 2, 0]) rfl (ih _ _ _ _ h kx)
set_option maxHeartbeats 4000000 in
set_option maxRecDepth 100000 in
theorem ct_X2_strongest (N : Nat) (d : Nat) (hd : 0 ≤ d) {S : gS} {J : gJ} (hS : Sh S) {t1 : Nat} {u1 : Nat} (hL1 : IsLe S t1 u1) {a2 : Int32} {I : gI} {r : Int32} (h : mX2_strongest N u1 a2 I = some r) : Ct yX2_strongest (wsY yX2_strongest cX2_strongest 5 (some .int)) d 0 0 [.ref t1, .int a2] S I J (qE (.inl (some (.int r))) S I J) := by
  refine Ct.of hF (fun _ _ _ _ _ => trivial) (by decide +kernel) (Nat.le_of_ble_eq_true rfl) ⟨Or.inl hL1.1.2.1, trivial, trivial⟩ ?_
  show Wp RX2 cX2_strongest 5 (some .int) [] hF d 0 0 0 [(0, .ref t1), (1, .int a2)] [] S I J _
  unfold mX2_strongest at h
  refine wp_iconst (v := 0) dX2_strongest_0 (by decide) ?_
  refine wp_istore_n (ls' := [(2, .int 0), (0, .ref t1), (1, .int a2)]) dX2_strongest_1 rfl (Nat.le_of_ble_eq_true rfl) rfl ?_
  refine wp_ldc dX2_strongest_2 koX2_129 ?_
  refine wp_istore_n (ls' := [(3, .int 1000000), (2, .int 0), (0, .ref t1), (1, .int a2)]) dX2_strongest_4 rfl (Nat.le_of_ble_eq_true rfl) rfl ?_
  refine wp_iconst (v := 0) dX2_strongest_5 (by decide) ?_
  refine wp_istore (ls' := [(4, .int 0), (3, .int 1000000), (2, .int 0), (0, .ref t1), (1, .int a2)]) dX2_strongest_6 (Nat.le_of_ble_eq_true rfl) rfl ?_
  obtain ⟨y5, hL96, h⟩ := obi h
  refine wp_pick (ks := [3, 4, 2, 1, 0]) rfl (wX2_strongest_8 d hd hS t1 u1 hL1 a2 I N 0 1000000 0 _ hL96 (fun _ e7 => ?_))
  cases e7
  refine wp_iload_n dX2_strongest_63 rfl rfl ?_
  exact wp_iret dX2_strongest_64 rfl (by obtain rfl := sji h; exact ⟨rfl, rfl, rfl, rfl⟩)
def mX2_overbooked_4 (N : Nat) (u1 : Nat) (k1 : Int32) (I : gI) : Nat → Int32 → Int32 → Option (Int32)
  | 0, _, _ => none
  | n + 1, v2, v3 => if (I 2 1) ≤ v3 then (some v2) else (if ((ushr k1 v3) &&& 1) = 0 then (mX2_overbooked_4 N u1 k1 I n v2 (v3 + 1)) else (Option.bind (mX2_poolWithout N u1 (-1) v3 7 I) (fun r3 => if 0 ≤ r3 then (mX2_overbooked_4 N u1 k1 I n v2 (v3 + 1)) else (mX2_overbooked_4 N u1 k1 I n (v2 ||| ((1 : Int32) <<< (v3 &&& 31))) (v3 + 1)))))
def mX2_overbooked (N : Nat) (u1 : Nat) (a2 : Int32) (I : gI) : Option (Int32) := Option.bind (mX2_overbooked_4 N u1 a2 I N 0 0) (fun y6 => some y6)
set_option maxHeartbeats 4000000 in
set_option maxRecDepth 100000 in
theorem wX2_overbooked_4 (N : Nat) (d : Nat) (hd : 1 ≤ d) {S : gS} {J : gJ} (hS : Sh S) (t1 : Nat) (u1 : Nat) (hL1 : IsLe S t1 u1) (k1 : Int32) (I : gI) {Q : gO → gS → gI → gJ → Prop} :
    ∀ (n : Nat) (v2 : Int32) (v3 : Int32) (res : Int32), mX2_overbooked_4 N u1 k1 I n v2 v3 = some res → (∀ (o2 : Int32), res = o2 → Wp RX2 cX2_overbooked 4 (some .int) [] hF d 0 0 46 [(2, .int o2)] [] S I J Q) → Wp RX2 cX2_overbooked 4 (some .int) [] hF d 0 0 4 [(0, .ref t1), (1, .int k1), (2, .int v2), (3, .int v3)] [] S I J Q := by
  intro n
  induction n with
  | zero => intro v2 v3 res h; exact nso h
  | succ n ih =>
    intro v2 v3 res h kx
    rw [mX2_overbooked_4] at h
    refine wp_iload_n dX2_overbooked_4 rfl rfl ?_
    refine wp_aload_n dX2_overbooked_5 rfl rfl ?_
    refine wp_getR dX2_overbooked_6 flX2_9 rfl hL1.1.1 hL1.1.2.1 hL1.1.2.2.1 ?_
    refine wp_getI dX2_overbooked_9 flX2_48 rfl (sk2 hS) (sn2 hS) ?_
    refine wp_icmp_ge (tgt := 46) dX2_overbooked_12 (by decide) (fun hc1 => ?_) (fun hc1 => ?_)
    · have h := ite_t hc1 h
      exact wp_pick (ks := [2]) rfl (kx _ (sji h).symm)
    · have h := ite_f hc1 h
      refine wp_iload_n dX2_overbooked_15 rfl rfl ?_
      refine wp_iload_n dX2_overbooked_16 rfl rfl ?_
      refine wp_iushr dX2_overbooked_17 ?_
      refine wp_iconst (v := 1) dX2_overbooked_18 (by decide) ?_
      refine wp_iand dX2_overbooked_19 ?_
      refine wp_if_eq (tgt := 40) dX2_overbooked_20 (by decide) (fun hc2 => ?_) (fun hc2 => ?_)
      · have h := ite_t hc2 h
        refine wp_iinc (v := 1) (ls' := [(3, .int (v3 + 1)), (0, .ref t1), (1, .int k1), (2, .int v2)]) dX2_overbooked_40 rfl (by decide) (Nat.le_of_ble_eq_true rfl) rfl ?_
        refine wp_goto (tgt := 4) dX2_overbooked_43 (by decide) ?_
        exact wp_pick (ks := [1, 2, 3, 0]) rfl (ih _ _ _ h kx)
      · have h := ite_f hc2 h
        refine wp_aload_n dX2_overbooked_23 rfl rfl ?_
        refine wp_iconst (v := (-1)) dX2_overbooked_24 (by decide) ?_
        refine wp_iload_n dX2_overbooked_25 rfl rfl ?_
        refine wp_bipush (v := 7) dX2_overbooked_26 (by decide) ?_
        obtain ⟨r3, hF4, h⟩ := obi h
        refine wp_callVi (ci := 2) (As := [.int (-1), .int v3, .int 7]) dX2_overbooked_28 lbX2_poolWithout mlX2_38 imX2_poolWithout seX2_poolWithout vc2 (ct_X2_poolWithout N 0 (Nat.le_refl _) hS hL1 hF4) rfl rfl (Nat.le_trans (by decide) hd) hL1.1.1 hL1.1.2.1 (Nat.le_of_ble_eq_true rfl) (fun _ => ?_)
        refine wp_if_ge (tgt := 40) dX2_overbooked_31 (by decide) (fun hc5 => ?_) (fun hc5 => ?_)
        · have h := ite_t hc5 h
          refine wp_iinc (v := 1) (ls' := [(3, .int (v3 + 1)), (0, .ref t1), (1, .int k1), (2, .int v2)]) dX2_overbooked_40 rfl (by decide) (Nat.le_of_ble_eq_true rfl) rfl ?_
          refine wp_goto (tgt := 4) dX2_overbooked_43 (by decide) ?_
          exact wp_pick (ks := [1, 2, 3, 0]) rfl (ih _ _ _ h kx)
        · have h := ite_f hc5 h
          refine wp_iload_n dX2_overbooked_34 rfl rfl ?_
          refine wp_iconst (v := 1) dX2_overbooked_35 (by decide) ?_
          refine wp_iload_n dX2_overbooked_36 rfl rfl ?_
          refine wp_ishl dX2_overbooked_37 ?_
          refine wp_ior dX2_overbooked_38 ?_
          refine wp_istore_n (ls' := [(2, .int (v2 ||| ((1 : Int32) <<< (v3 &&& 31)))), (0, .ref t1), (1, .int k1), (3, .int v3)]) dX2_overbooked_39 rfl (Nat.le_of_ble_eq_true rfl) rfl ?_
          refine wp_iinc (v := 1) (ls' := [(3, .int (v3 + 1)), (2, .int (v2 ||| ((1 : Int32) <<< (v3 &&& 31)))), (0, .ref t1), (1, .int k1)]) dX2_overbooked_40 rfl (by decide) (Nat.le_of_ble_eq_true rfl) rfl ?_
          refine wp_goto (tgt := 4) dX2_overbooked_43 (by decide) ?_
          exact wp_pick (ks := [2, 3, 1, 0]) rfl (ih _ _ _ h kx)
set_option maxHeartbeats 4000000 in
set_option maxRecDepth 100000 in
theorem ct_X2_overbooked (N : Nat) (d : Nat) (hd : 1 ≤ d) {S : gS} {J : gJ} (hS : Sh S) {t1 : Nat} {u1 : Nat} (hL1 : IsLe S t1 u1) {a2 : Int32} {I : gI} {r : Int32} (h : mX2_overbooked N u1 a2 I = some r) : Ct yX2_overbooked (wsY yX2_overbooked cX2_overbooked 4 (some .int)) d 0 0 [.ref t1, .int a2] S I J (qE (.inl (some (.int r))) S I J) := by
  refine Ct.of hF (fun _ _ _ _ _ => trivial) (by decide +kernel) (Nat.le_of_ble_eq_true rfl) ⟨Or.inl hL1.1.2.1, trivial, trivial⟩ ?_
  show Wp RX2 cX2_overbooked 4 (some .int) [] hF d 0 0 0 [(0, .ref t1), (1, .int a2)] [] S I J _
  unfold mX2_overbooked at h
  refine wp_iconst (v := 0) dX2_overbooked_0 (by decide) ?_
  refine wp_istore_n (ls' := [(2, .int 0), (0, .ref t1), (1, .int a2)]) dX2_overbooked_1 rfl (Nat.le_of_ble_eq_true rfl) rfl ?_
  refine wp_iconst (v := 0) dX2_overbooked_2 (by decide) ?_
  refine wp_istore_n (ls' := [(3, .int 0), (2, .int 0), (0, .ref t1), (1, .int a2)]) dX2_overbooked_3 rfl (Nat.le_of_ble_eq_true rfl) rfl ?_
  obtain ⟨y6, hL97, h⟩ := obi h
  refine wp_pick (ks := [2, 3, 1, 0]) rfl (wX2_overbooked_4 N d hd hS t1 u1 hL1 a2 I N 0 0 _ hL97 (fun _ e8 => ?_))
  cases e8
  refine wp_iload_n dX2_overbooked_46 rfl rfl ?_
  exact wp_iret dX2_overbooked_47 rfl (by obtain rfl := sji h; exact ⟨rfl, rfl, rfl, rfl⟩)
def mX2_weakerOn_5 (u1 : Nat) (k1 : Int32) (k2 : Int32) (I : gI) : Nat → Int32 → Int32 → Option (Int32)
  | 0, _, _ => none
  | n + 1, v3, v4 => if (I 2 2) ≤ v4 then (some v3) else (ck v4 9 (if (I 12 v4.toNatClampNeg) ≤ k2 then (mX2_weakerOn_5 u1 k1 k2 I n v3 (v4 + 1)) else (if ((I (u1 + 1) v4.toNatClampNeg) &&& k1) = 0 then (mX2_weakerOn_5 u1 k1 k2 I n v3 (v4 + 1)) else (mX2_weakerOn_5 u1 k1 k2 I n (v3 ||| ((1 : Int32) <<< (v4 &&& 31))) (v4 + 1)))))
def mX2_weakerOn (N : Nat) (u1 : Nat) (a2 : Int32) (a3 : Int32) (I : gI) : Option (Int32) := Option.bind (mX2_weakerOn_5 u1 a2 a3 I N 0 0) (fun y5 => some y5)
set_option maxHeartbeats 4000000 in
set_option maxRecDepth 100000 in
theorem wX2_weakerOn_5 (d : Nat) (hd : 0 ≤ d) {S : gS} {J : gJ} (hS : Sh S) (t1 : Nat) (u1 : Nat) (hL1 : IsLe S t1 u1) (k1 : Int32) (k2 : Int32) (I : gI) {Q : gO → gS → gI → gJ → Prop} :
    ∀ (n : Nat) (v3 : Int32) (v4 : Int32) (res : Int32), mX2_weakerOn_5 u1 k1 k2 I n v3 v4 = some res → (∀ (o3 : Int32), res = o3 → Wp RX2 cX2_weakerOn 5 (some .int) [] hF d 0 0 59 [(3, .int o3)] [] S I J Q) → Wp RX2 cX2_weakerOn 5 (some .int) [] hF d 0 0 5 [(0, .ref t1), (1, .int k1), (2, .int k2), (3, .int v3), (4, .int v4)] [] S I J Q := by
  intro n
  induction n with
  | zero => intro v3 v4 res h; exact nso h
  | succ n ih =>
    intro v3 v4 res h kx
    rw [mX2_weakerOn_5] at h
    refine wp_iload dX2_weakerOn_5 rfl ?_
    refine wp_aload_n dX2_weakerOn_7 rfl rfl ?_
    refine wp_getR dX2_weakerOn_8 flX2_9 rfl hL1.1.1 hL1.1.2.1 hL1.1.2.2.1 ?_
    refine wp_getI dX2_weakerOn_11 flX2_23 rfl (sk2 hS) (sn2 hS) ?_
    refine wp_icmp_ge (tgt := 59) dX2_weakerOn_14 (by decide) (fun hc1 => ?_) (fun hc1 => ?_)
    · have h := ite_t hc1 h
      exact wp_pick (ks := [3]) rfl (kx _ (sji h).symm)
    · have h := ite_f hc1 h
      refine wp_aload_n dX2_weakerOn_17 rfl rfl ?_
      refine wp_getR dX2_weakerOn_18 flX2_9 rfl hL1.1.1 hL1.1.2.1 hL1.1.2.2.1 ?_
      refine wp_getR dX2_weakerOn_21 flX2_42 rfl (sk2 hS) (sn2 hS) (sr2_12 hS) ?_
      refine wp_iload dX2_weakerOn_24 rfl ?_
      obtain ⟨hb2, h⟩ := ck_inv h
      refine wp_iald dX2_weakerOn_26 (sk12 hS) (sn12 hS) hb2 ?_
      refine wp_iload_n dX2_weakerOn_27 rfl rfl ?_
      refine wp_icmp_le (tgt := 53) dX2_weakerOn_28 (by decide) (fun hc3 => ?_) (fun hc3 => ?_)
      · have h := ite_t hc3 h
        refine wp_iinc (v := 1) (ls' := [(4, .int (v4 + 1)), (0, .ref t1), (1, .int k1), (2, .int k2), (3, .int v3)]) dX2_weakerOn_53 rfl (by decide) (Nat.le_of_ble_eq_true rfl) rfl ?_
        refine wp_goto (tgt := 5) dX2_weakerOn_56 (by decide) ?_
        exact wp_pick (ks := [1, 2, 3, 4, 0]) rfl (ih _ _ _ h kx)
      · have h := ite_f hc3 h
        refine wp_aload_n dX2_weakerOn_31 rfl rfl ?_
        refine wp_getR dX2_weakerOn_32 flX2_19 rfl hL1.1.1 hL1.1.2.1 hL1.1.2.2.2.2 ?_
        refine wp_getR dX2_weakerOn_35 flX2_29 rfl hL1.2.1 hL1.2.n0 hL1.2.2.2.2.2.1 ?_
        refine wp_iload dX2_weakerOn_38 rfl ?_
        refine wp_iald dX2_weakerOn_40 hL1.2.2.2.1 hL1.2.n1 hb2 ?_
        refine wp_iload_n dX2_weakerOn_41 rfl rfl ?_
        refine wp_iand dX2_weakerOn_42 ?_
        refine wp_if_eq (tgt := 53) dX2_weakerOn_43 (by decide) (fun hc4 => ?_) (fun hc4 => ?_)
        · have h := ite_t hc4 h
          refine wp_iinc (v := 1) (ls' := [(4, .int (v4 + 1)), (0, .ref t1), (1, .int k1), (2, .int k2), (3, .int v3)]) dX2_weakerOn_53 rfl (by decide) (Nat.le_of_ble_eq_true rfl) rfl ?_
          refine wp_goto (tgt := 5) dX2_weakerOn_56 (by decide) ?_
          exact wp_pick (ks := [1, 2, 3, 4, 0]) rfl (ih _ _ _ h kx)
        · have h := ite_f hc4 h
          refine wp_iload_n dX2_weakerOn_46 rfl rfl ?_
          refine wp_iconst (v := 1) dX2_weakerOn_47 (by decide) ?_
          refine wp_iload dX2_weakerOn_48 rfl ?_
          refine wp_ishl dX2_weakerOn_50 ?_
          refine wp_ior dX2_weakerOn_51 ?_
          refine wp_istore_n (ls' := [(3, .int (v3 ||| ((1 : Int32) <<< (v4 &&& 31)))), (0, .ref t1), (1, .int k1), (2, .int k2), (4, .int v4)]) dX2_weakerOn_52 rfl (Nat.le_of_ble_eq_true rfl) rfl ?_
          refine wp_iinc (v := 1) (ls' := [(4, .int (v4 + 1)), (3, .int (v3 ||| ((1 : Int32) <<< (v4 &&& 31)))), (0, .ref t1), (1, .int k1), (2, .int k2)]) dX2_weakerOn_53 rfl (by decide) (Nat.le_of_ble_eq_true rfl) rfl ?_
          refine wp_goto (tgt := 5) dX2_weakerOn_56 (by decide) ?_
          exact wp_pick (ks := [2, 3, 4, 1, 0]) rfl (ih _ _ _ h kx)
set_option maxHeartbeats 4000000 in
set_option maxRecDepth 100000 in
theorem ct_X2_weakerOn (N : Nat) (d : Nat) (hd : 0 ≤ d) {S : gS} {J : gJ} (hS : Sh S) {t1 : Nat} {u1 : Nat} (hL1 : IsLe S t1 u1) {a2 : Int32} {a3 : Int32} {I : gI} {r : Int32} (h : mX2_weakerOn N u1 a2 a3 I = some r) : Ct yX2_weakerOn (wsY yX2_weakerOn cX2_weakerOn 5 (some .int)) d 0 0 [.ref t1, .int a2, .int a3] S I J (qE (.inl (some (.int r))) S I J) := by
  refine Ct.of hF (fun _ _ _ _ _ => trivial) (by decide +kernel) (Nat.le_of_ble_eq_true rfl) ⟨Or.inl hL1.1.2.1, trivial, trivial, trivial⟩ ?_
  show Wp RX2 cX2_weakerOn 5 (some .int) [] hF d 0 0 0 [(0, .ref t1), (1, .int a2), (2, .int a3)] [] S I J _
  unfold mX2_weakerOn at h
  refine wp_iconst (v := 0) dX2_weakerOn_0 (by decide) ?_
  refine wp_istore_n (ls' := [(3, .int 0), (0, .ref t1), (1, .int a2), (2, .int a3)]) dX2_weakerOn_1 rfl (Nat.le_of_ble_eq_true rfl) rfl ?_
  refine wp_iconst (v := 0) dX2_weakerOn_2 (by decide) ?_
  refine wp_istore (ls' := [(4, .int 0), (3, .int 0), (0, .ref t1), (1, .int a2), (2, .int a3)]) dX2_weakerOn_3 (Nat.le_of_ble_eq_true rfl) rfl ?_
  obtain ⟨y5, hL96, h⟩ := obi h
  refine wp_pick (ks := [2, 3, 4, 1, 0]) rfl (wX2_weakerOn_5 d hd hS t1 u1 hL1 a2 a3 I N 0 0 _ hL96 (fun _ e7 => ?_))
  cases e7
  refine wp_iload_n dX2_weakerOn_59 rfl rfl ?_
  exact wp_iret dX2_weakerOn_60 rfl (by obtain rfl := sji h; exact ⟨rfl, rfl, rfl, rfl⟩)
def mX2_costOf_4 (u1 : Nat) (k1 : Int32) (I : gI) : Nat → Int32 → Int32 → Option (Int32)
  | 0, _, _ => none
  | n + 1, v2, v3 => if (I 2 2) ≤ v3 then (some v2) else (if ((ushr k1 v3) &&& 1) = 0 then (mX2_costOf_4 u1 k1 I n v2 (v3 + 1)) else (ck v3 9 (nm (((((8 - (I 12 v3.toNatClampNeg)) * 16) + 1) * 1000) + (I (u1 + 2) v3.toNatClampNeg)) (fun x4 => mX2_costOf_4 u1 k1 I n (v2 + x4) (v3 + 1)))))
def mX2_costOf (N : Nat) (u1 : Nat) (a2 : Int32) (I : gI) : Option (Int32) := Option.bind (mX2_costOf_4 u1 a2 I N 0 0) (fun y6 => some y6)
set_option maxHeartbeats 4000000 in
set_option maxRecDepth 100000 in
theorem wX2_costOf_4 (d : Nat) (hd : 0 ≤ d) {S : gS} {J : gJ} (hS : Sh S) (t1 : Nat) (u1 : Nat) (hL1 : IsLe S t1 u1) (k1 : Int32) (I : gI) {Q : gO → gS → gI → gJ → Prop} :
    ∀ (n : Nat) (v2 : Int32) (v3 : Int32) (res : Int32), mX2_costOf_4 u1 k1 I n v2 v3 = some res → (∀ (o2 : Int32), res = o2 → Wp RX2 cX2_costOf 5 (some .int) [] hF d 0 0 67 [(2, .int o2)] [] S I J Q) → Wp RX2 cX2_costOf 5 (some .int) [] hF d 0 0 4 [(0, .ref t1), (1, .int k1), (2, .int v2), (3, .int v3)] [] S I J Q := by
  intro n
  induction n with
  | zero => intro v2 v3 res h; exact nso h
  | succ n ih =>
    intro v2 v3 res h kx
    rw [mX2_costOf_4] at h
    refine wp_iload_n dX2_costOf_4 rfl rfl ?_
    refine wp_aload_n dX2_costOf_5 rfl rfl ?_
    refine wp_getR dX2_costOf_6 flX2_9 rfl hL1.1.1 hL1.1.2.1 hL1.1.2.2.1 ?_
    refine wp_getI dX2_costOf_9 flX2_23 rfl (sk2 hS) (sn2 hS) ?_
    refine wp_icmp_ge (tgt := 67) dX2_costOf_12 (by decide) (fun hc1 => ?_) (fun hc1 => ?_)
    · have h := ite_t hc1 h
      exact wp_pick (ks := [2]) rfl (kx _ (sji h).symm)
    · have h := ite_f hc1 h
      refine wp_iload_n dX2_costOf_15 rfl rfl ?_
      refine wp_iload_n dX2_costOf_16 rfl rfl ?_
      refine wp_iushr dX2_costOf_17 ?_
      refine wp_iconst (v := 1) dX2_costOf_18 (by decide) ?_
      refine wp_iand dX2_costOf_19 ?_
      refine wp_if_eq (tgt := 61) dX2_costOf_20 (by decide) (fun hc2 => ?_) (fun hc2 => ?_)
      · have h := ite_t hc2 h
        refine wp_iinc (v := 1) (ls' := [(3, .int (v3 + 1)), (0, .ref t1), (1, .int k1), (2, .int v2)]) dX2_costOf_61 rfl (by decide) (Nat.le_of_ble_eq_true rfl) rfl ?_
        refine wp_goto (tgt := 4) dX2_costOf_64 (by decide) ?_
        exact wp_pick (ks := [1, 2, 3, 0]) rfl (ih _ _ _ h kx)
      · have h := ite_f hc2 h
        refine wp_bipush (v := 8) dX2_costOf_23 (by decide) ?_
        refine wp_aload_n dX2_costOf_25 rfl rfl ?_
        refine wp_getR dX2_costOf_26 flX2_9 rfl hL1.1.1 hL1.1.2.1 hL1.1.2.2.1 ?_
        refine wp_getR dX2_costOf_29 flX2_42 rfl (sk2 hS) (sn2 hS) (sr2_12 hS) ?_
        refine wp_iload_n dX2_costOf_32 rfl rfl ?_
        obtain ⟨hb3, h⟩ := ck_inv h
        refine wp_iald dX2_costOf_33 (sk12 hS) (sn12 hS) hb3 ?_
        refine wp_isub dX2_costOf_34 ?_
        refine wp_istore (ls' := [(4, .int (8 - (I 12 v3.toNatClampNeg))), (0, .ref t1), (1, .int k1), (2, .int v2), (3, .int v3)]) dX2_costOf_35 (Nat.le_of_ble_eq_true rfl) rfl ?_
        refine wp_iload_n dX2_costOf_37 rfl rfl ?_
        refine wp_iload dX2_costOf_38 rfl ?_
        refine wp_bipush (v := 16) dX2_costOf_40 (by decide) ?_
        refine wp_imul dX2_costOf_42 ?_
        refine wp_iconst (v := 1) dX2_costOf_43 (by decide) ?_
        refine wp_iadd dX2_costOf_44 ?_
        refine wp_sipush (v := 1000) dX2_costOf_45 (by decide) ?_
        refine wp_imul dX2_costOf_48 ?_
        refine wp_aload_n dX2_costOf_49 rfl rfl ?_
        refine wp_getR dX2_costOf_50 flX2_19 rfl hL1.1.1 hL1.1.2.1 hL1.1.2.2.2.2 ?_
        refine wp_getR dX2_costOf_53 flX2_45 rfl hL1.2.1 hL1.2.n0 hL1.2.2.2.2.2.2 ?_
        refine wp_iload_n dX2_costOf_56 rfl rfl ?_
        refine wp_iald dX2_costOf_57 hL1.2.2.2.2.1 hL1.2.n2 hb3 ?_
        refine wp_iadd dX2_costOf_58 ?_
        obtain ⟨x4, hx5, h⟩ := nm_inv h
        refine wp_topi hx5 ?_
        refine wp_iadd dX2_costOf_59 ?_
        refine wp_istore_n (ls' := [(2, .int (v2 + x4)), (4, .int (8 - (I 12 v3.toNatClampNeg))), (0, .ref t1), (1, .int k1), (3, .int v3)]) dX2_costOf_60 rfl (Nat.le_of_ble_eq_true rfl) rfl ?_
        refine wp_iinc (v := 1) (ls' := [(3, .int (v3 + 1)), (2, .int (v2 + x4)), (4, .int (8 - (I 12 v3.toNatClampNeg))), (0, .ref t1), (1, .int k1)]) dX2_costOf_61 rfl (by decide) (Nat.le_of_ble_eq_true rfl) rfl ?_
        refine wp_goto (tgt := 4) dX2_costOf_64 (by decide) ?_
        exact wp_pick (ks := [3, 4, 1, 0]) rfl (ih _ _ _ h kx)
set_option maxHeartbeats 4000000 in
set_option maxRecDepth 100000 in
theorem ct_X2_costOf (N : Nat) (d : Nat) (hd : 0 ≤ d) {S : gS} {J : gJ} (hS : Sh S) {t1 : Nat} {u1 : Nat} (hL1 : IsLe S t1 u1) {a2 : Int32} {I : gI} {r : Int32} (h : mX2_costOf N u1 a2 I = some r) : Ct yX2_costOf (wsY yX2_costOf cX2_costOf 5 (some .int)) d 0 0 [.ref t1, .int a2] S I J (qE (.inl (some (.int r))) S I J) := by
  refine Ct.of hF (fun _ _ _ _ _ => trivial) (by decide +kernel) (Nat.le_of_ble_eq_true rfl) ⟨Or.inl hL1.1.2.1, trivial, trivial⟩ ?_
  show Wp RX2 cX2_costOf 5 (some .int) [] hF d 0 0 0 [(0, .ref t1), (1, .int a2)] [] S I J _
  unfold mX2_costOf at h
  refine wp_iconst (v := 0) dX2_costOf_0 (by decide) ?_
  refine wp_istore_n (ls' := [(2, .int 0), (0, .ref t1), (1, .int a2)]) dX2_costOf_1 rfl (Nat.le_of_ble_eq_true rfl) rfl ?_
  refine wp_iconst (v := 0) dX2_costOf_2 (by decide) ?_
  refine wp_istore_n (ls' := [(3, .int 0), (2, .int 0), (0, .ref t1), (1, .int a2)]) dX2_costOf_3 rfl (Nat.le_of_ble_eq_true rfl) rfl ?_
  obtain ⟨y6, hL97, h⟩ := obi h
  refine wp_pick (ks := [2, 3, 1, 0]) rfl (wX2_costOf_4 d hd hS t1 u1 hL1 a2 I N 0 0 _ hL97 (fun _ e8 => ?_))
  cases e8
  refine wp_iload_n dX2_costOf_67 rfl rfl ?_
  exact wp_iret dX2_costOf_68 rfl (by obtain rfl := sji h; exact ⟨rfl, rfl, rfl, rfl⟩)
def mX2_relieves_34 (u1 : Nat) (k1 : Int32) (k2 : Int32) (k3 : Int32) (I : gI) : Nat → Int32 → Int32 → Option (Int32)
  | 0, _, _ => none
  | n + 1, v4, v5 => if (I 2 2) ≤ v5 then (some v4) else (ck v5 9 (nm (((ushr k1 v5) &&& (ushr (I (u1 + 1) v5.toNatClampNeg) k3)) &&& 1) (fun x7 => if x7 = 0 then (mX2_relieves_34 u1 k1 k2 k3 I n v4 (v5 + 1)) else (mX2_relieves_34 u1 k1 k2 k3 I n (v4 + (I (u1 + 2) v5.toNatClampNeg)) (v5 + 1)))))
def mX2_relieves_2 (N : Nat) (u1 : Nat) (k1 : Int32) (k2 : Int32) (I : gI) : Nat → Int32 → Option ((Unit) ⊕ (Int32))
  | 0, _ => none
  | n + 1, v3 => if (I 2 1) ≤ v3 then (some (.inl ())) else (if ((ushr k2 v3) &&& 1) = 0 then (mX2_relieves_2 N u1 k1 k2 I n (v3 + 1)) else (Option.bind (mX2_poolWithout N u1 (-1) v3 7 I) (fun r3 => Option.bind (mX2_relieves_34 u1 k1 k2 v3 I N r3 0) (fun y10 => if 0 ≤ y10 then (mX2_relieves_2 N u1 k1 k2 I n (v3 + 1)) else (some (.inr 0))))))
def mX2_relieves (N : Nat) (u1 : Nat) (a2 : Int32) (a3 : Int32) (I : gI) : Option (Int32) := lbind (mX2_relieves_2 N u1 a2 a3 I N 0) (fun _ => some 1) (fun r16 => some r16)
set_option maxHeartbeats 4000000 in
set_option maxRecDepth 100000 in
theorem wX2_relieves_34 (d : Nat) (hd : 1 ≤ d) {S : gS} {J : gJ} (hS : Sh S) (t1 : Nat) (u1 : Nat) (hL1 : IsLe S t1 u1) (k1 : Int32) (k2 : Int32) (k3 : Int32) (I : gI) {Q : gO → gS → gI → gJ → Prop} :
    ∀ (n : Nat) (v4 : Int32) (v5 : Int32) (res : Int32), mX2_relieves_34 u1 k1 k2 k3 I n v4 v5 = some res → (∀ (o4 : Int32), res = o4 → Wp RX2 cX2_relieves 6 (some .boolean) [] hF d 0 0 89 [(0, .ref t1), (1, .int k1), (2, .int k2), (3, .int k3), (4, .int o4)] [] S I J Q) → Wp RX2 cX2_relieves 6 (some .boolean) [] hF d 0 0 34 [(0, .ref t1), (1, .int k1), (2, .int k2), (3, .int k3), (4, .int v4), (5, .int v5)] [] S I J Q := by
  intro n
  induction n with
  | zero => intro v4 v5 res h; exact nso h
  | succ n ih =>
    intro v4 v5 res h kx
    rw [mX2_relieves_34] at h
    refine wp_iload dX2_relieves_34 rfl ?_
    refine wp_aload_n dX2_relieves_36 rfl rfl ?_
    refine wp_getR dX2_relieves_37 flX2_9 rfl hL1.1.1 hL1.1.2.1 hL1.1.2.2.1 ?_
    refine wp_getI dX2_relieves_40 flX2_23 rfl (sk2 hS) (sn2 hS) ?_
    refine wp_icmp_ge (tgt := 89) dX2_relieves_43 (by decide) (fun hc5 => ?_) (fun hc5 => ?_)
    · have h := ite_t hc5 h
      exact wp_pick (ks := [0, 1, 2, 3, 4]) rfl (kx _ (sji h).symm)
    · have h := ite_f hc5 h
      refine wp_iload_n dX2_relieves_46 rfl rfl ?_
      refine wp_iload dX2_relieves_47 rfl ?_
      refine wp_iushr dX2_relieves_49 ?_
      refine wp_aload_n dX2_relieves_50 rfl rfl ?_
      refine wp_getR dX2_relieves_51 flX2_19 rfl hL1.1.1 hL1.1.2.1 hL1.1.2.2.2.2 ?_
      refine wp_getR dX2_relieves_54 flX2_29 rfl hL1.2.1 hL1.2.n0 hL1.2.2.2.2.2.1 ?_
      refine wp_iload dX2_relieves_57 rfl ?_
      obtain ⟨hb6, h⟩ := ck_inv h
      refine wp_iald dX2_relieves_59 hL1.2.2.2.1 hL1.2.n1 hb6 ?_
      refine wp_iload_n dX2_relieves_60 rfl rfl ?_
      refine wp_iushr dX2_relieves_61 ?_
      refine wp_iand dX2_relieves_62 ?_
      refine wp_iconst (v := 1) dX2_relieves_63 (by decide) ?_
      refine wp_iand dX2_relieves_64 ?_
      obtain ⟨x7, hx8, h⟩ := nm_inv h
      refine wp_topi hx8 ?_
      refine wp_if_eq (tgt := 83) dX2_relieves_65 (by decide) (fun hc9 => ?_) (fun hc9 => ?_)
      · have h := ite_t hc9 h
        refine wp_iinc (v := 1) (ls' := [(5, .int (v5 + 1)), (0, .ref t1), (1, .int k1), (2, .int k2), (3, .int k3), (4, .int v4)]) dX2_relieves_83 rfl (by decide) (Nat.le_of_ble_eq_true rfl) rfl ?_
        refine wp_goto (tgt := 34) dX2_relieves_86 (by decide) ?_
        exact wp_pick (ks := [1, 2, 3, 4, 5, 0]) rfl (ih _ _ _ h kx)
      · have h := ite_f hc9 h
        refine wp_iload dX2_relieves_68 rfl ?_
        refine wp_aload_n dX2_relieves_70 rfl rfl ?_
        refine wp_getR dX2_relieves_71 flX2_19 rfl hL1.1.1 hL1.1.2.1 hL1.1.2.2.2.2 ?_
        refine wp_getR dX2_relieves_74 flX2_45 rfl hL1.2.1 hL1.2.n0 hL1.2.2.2.2.2.2 ?_
        refine wp_iload dX2_relieves_77 rfl ?_
        refine wp_iald dX2_relieves_79 hL1.2.2.2.2.1 hL1.2.n2 hb6 ?_
        refine wp_iadd dX2_relieves_80 ?_
        refine wp_istore (ls' := [(4, .int (v4 + (I (u1 + 2) v5.toNatClampNeg))), (0, .ref t1), (1, .int k1), (2, .int k2), (3, .int k3), (5, .int v5)]) dX2_relieves_81 (Nat.le_of_ble_eq_true rfl) rfl ?_
        refine wp_iinc (v := 1) (ls' := [(5, .int (v5 + 1)), (4, .int (v4 + (I (u1 + 2) v5.toNatClampNeg))), (0, .ref t1), (1, .int k1), (2, .int k2), (3, .int k3)]) dX2_relieves_83 rfl (by decide) (Nat.le_of_ble_eq_true rfl) rfl ?_
        refine wp_goto (tgt := 34) dX2_relieves_86 (by decide) ?_
        exact wp_pick (ks := [2, 3, 4, 5, 1, 0]) rfl (ih _ _ _ h kx)
set_option maxHeartbeats 4000000 in
set_option maxRecDepth 100000 in
theorem wX2_relieves_2 (N : Nat) (d : Nat) (hd : 1 ≤ d) {S : gS} {J : gJ} (hS : Sh S) (t1 : Nat) (u1 : Nat) (hL1 : IsLe S t1 u1) (k1 : Int32) (k2 : Int32) (I : gI) {Q : gO → gS → gI → gJ → Prop} :
    ∀ (n : Nat) (v3 : Int32) (res : (Unit) ⊕ (Int32)), mX2_relieves_2 N u1 k1 k2 I n v3 = some res → (res = Sum.inl () → Wp RX2 cX2_relieves 6 (some .boolean) [] hF d 0 0 102 [] [] S I J Q) → (∀ (r : Int32), res = Sum.inr r → Q (.inl (some (.int r))) S I J) → Wp RX2 cX2_relieves 6 (some .boolean) [] hF d 0 0 2 [(0, .ref t1), (1, .int k1), (2, .int k2), (3, .int v3)] [] S I J Q := by
  intro n
  induction n with
  | zero => intro v3 res h; exact nso h
  | succ n ih =>
    intro v3 res h kx kr
    rw [mX2_relieves_2] at h
    refine wp_iload_n dX2_relieves_2 rfl rfl ?_
    refine wp_aload_n dX2_relieves_3 rfl rfl ?_
    refine wp_getR dX2_relieves_4 flX2_9 rfl hL1.1.1 hL1.1.2.1 hL1.1.2.2.1 ?_
    refine wp_getI dX2_relieves_7 flX2_48 rfl (sk2 hS) (sn2 hS) ?_
    refine wp_icmp_ge (tgt := 102) dX2_relieves_10 (by decide) (fun hc1 => ?_) (fun hc1 => ?_)
    · have h := ite_t hc1 h
      exact wp_pick (ks := []) rfl (kx (sji h).symm)
    · have h := ite_f hc1 h
      refine wp_iload_n dX2_relieves_13 rfl rfl ?_
      refine wp_iload_n dX2_relieves_14 rfl rfl ?_
      refine wp_iushr dX2_relieves_15 ?_
      refine wp_iconst (v := 1) dX2_relieves_16 (by decide) ?_
      refine wp_iand dX2_relieves_17 ?_
      refine wp_if_eq (tgt := 96) dX2_relieves_18 (by decide) (fun hc2 => ?_) (fun hc2 => ?_)
      · have h := ite_t hc2 h
        refine wp_iinc (v := 1) (ls' := [(3, .int (v3 + 1)), (0, .ref t1), (1, .int k1), (2, .int k2)]) dX2_relieves_96 rfl (by decide) (Nat.le_of_ble_eq_true rfl) rfl ?_
        refine wp_goto (tgt := 2) dX2_relieves_99 (by decide) ?_
        exact wp_pick (ks := [1, 2, 3, 0]) rfl (ih _ _ h kx kr)
      · have h := ite_f hc2 h
        refine wp_aload_n dX2_relieves_21 rfl rfl ?_
        refine wp_iconst (v := (-1)) dX2_relieves_22 (by decide) ?_
        refine wp_iload_n dX2_relieves_23 rfl rfl ?_
        refine wp_bipush (v := 7) dX2_relieves_24 (by decide) ?_
        obtain ⟨r3, hF4, h⟩ := obi h
        refine wp_callVi (ci := 2) (As := [.int (-1), .int v3, .int 7]) dX2_relieves_26 lbX2_poolWithout mlX2_38 imX2_poolWithout seX2_poolWithout vc2 (ct_X2_poolWithout N 0 (Nat.le_refl _) hS hL1 hF4) rfl rfl (Nat.le_trans (by decide) hd) hL1.1.1 hL1.1.2.1 (Nat.le_of_ble_eq_true rfl) (fun _ => ?_)
        refine wp_istore (ls' := [(4, .int r3), (0, .ref t1), (1, .int k1), (2, .int k2), (3, .int v3)]) dX2_relieves_29 (Nat.le_of_ble_eq_true rfl) rfl ?_
        refine wp_iconst (v := 0) dX2_relieves_31 (by decide) ?_
        refine wp_istore (ls' := [(5, .int 0), (4, .int r3), (0, .ref t1), (1, .int k1), (2, .int k2), (3, .int v3)]) dX2_relieves_32 (Nat.le_of_ble_eq_true rfl) rfl ?_
        obtain ⟨y10, hL912, h⟩ := obi h
        refine wp_pick (ks := [2, 3, 4, 5, 1, 0]) rfl (wX2_relieves_34 d hd hS t1 u1 hL1 k1 k2 v3 I N r3 0 _ hL912 (fun _ e13 => ?_))
        cases e13
        refine wp_iload dX2_relieves_89 rfl ?_
        refine wp_if_ge (tgt := 96) dX2_relieves_91 (by decide) (fun hc11 => ?_) (fun hc11 => ?_)
        · have h := ite_t hc11 h
          refine wp_iinc (v := 1) (ls' := [(3, .int (v3 + 1)), (0, .ref t1), (1, .int k1), (2, .int k2), (4, .int y10)]) dX2_relieves_96 rfl (by decide) (Nat.le_of_ble_eq_true rfl) rfl ?_
          refine wp_goto (tgt := 2) dX2_relieves_99 (by decide) ?_
          exact wp_pick (ks := [1, 2, 3, 0]) rfl (ih _ _ h kx kr)
        · have h := ite_f hc11 h
          refine wp_iconst (v := 0) dX2_relieves_94 (by decide) ?_
          exact wp_zret dX2_relieves_95 rfl (by decide) (kr _ (sji h).symm)
set_option maxHeartbeats 4000000 in
set_option maxRecDepth 100000 in
theorem ct_X2_relieves (N : Nat) (d : Nat) (hd : 1 ≤ d) {S : gS} {J : gJ} (hS : Sh S) {t1 : Nat} {u1 : Nat} (hL1 : IsLe S t1 u1) {a2 : Int32} {a3 : Int32} {I : gI} {r : Int32} (h : mX2_relieves N u1 a2 a3 I = some r) : Ct yX2_relieves (wsY yX2_relieves cX2_relieves 6 (some .boolean)) d 0 0 [.ref t1, .int a2, .int a3] S I J (qE (.inl (some (.int r))) S I J) := by
  refine Ct.of hF (fun _ _ _ _ _ => trivial) (by decide +kernel) (Nat.le_of_ble_eq_true rfl) ⟨Or.inl hL1.1.2.1, trivial, trivial, trivial⟩ ?_
  show Wp RX2 cX2_relieves 6 (some .boolean) [] hF d 0 0 0 [(0, .ref t1), (1, .int a2), (2, .int a3)] [] S I J _
  unfold mX2_relieves at h
  refine wp_iconst (v := 0) dX2_relieves_0 (by decide) ?_
  refine wp_istore_n (ls' := [(3, .int 0), (0, .ref t1), (1, .int a2), (2, .int a3)]) dX2_relieves_1 rfl (Nat.le_of_ble_eq_true rfl) rfl ?_
  rcases lbi h with ⟨⟨⟩, hL914, h⟩ | ⟨r16, hL914, h⟩
  · refine wp_pick (ks := [1, 2, 3, 0]) rfl (wX2_relieves_2 N d hd hS t1 u1 hL1 a2 a3 I N 0 _ hL914 (fun  e15 => ?_) (fun _ e9 => by cases e9))
    cases e15
    refine wp_iconst (v := 1) dX2_relieves_102 (by decide) ?_
    exact wp_zret dX2_relieves_103 rfl (by decide) (by obtain rfl := sji h; exact ⟨rfl, rfl, rfl, rfl⟩)
  · refine wp_pick (ks := [1, 2, 3, 0]) rfl (wX2_relieves_2 N d hd hS t1 u1 hL1 a2 a3 I N 0 _ hL914 (fun  e9 => by cases e9) (fun _ e15 => ?_))
    cases e15
    exact (by obtain rfl := sji h; exact ⟨rfl, rfl, rfl, rfl⟩)
def mX2_whomToPush_44 (N : Nat) (u1 : Nat) (k2 : Int32) (k3 : Int32) (I : gI) : Nat → Int32 → Int32 → Int32 → Option (Int32)
  | 0, _, _, _ => none
  | n + 1, v4, v5, v6 => if k3 < v6 then (some v4) else (if (v6 &&& (k3 ^^^ (-1))) = 0 then (Option.bind (mX2_costOf N u1 v6 I) (fun r9 => if v4 = 0 then (Option.bind (mX2_relieves N u1 v6 k2 I) (fun r12 => if r12 = 0 then (mX2_whomToPush_44 N u1 k2 k3 I n v4 v5 (v6 + 1)) else (mX2_whomToPush_44 N u1 k2 k3 I n v6 r9 (v6 + 1)))) else (if v5 ≤ r9 then (mX2_whomToPush_44 N u1 k2 k3 I n v4 v5 (v6 + 1)) else (Option.bind (mX2_relieves N u1 v6 k2 I) (fun r16 => if r16 = 0 then (mX2_whomToPush_44 N u1 k2 k3 I n v4 v5 (v6 + 1)) else (mX2_whomToPush_44 N u1 k2 k3 I n v6 r9 (v6 + 1))))))) else (mX2_whomToPush_44 N u1 k2 k3 I n v4 v5 (v6 + 1)))
def mX2_whomToPush (N : Nat) (u1 : Nat) (a2 : Int32) (I : gI) : Option (Int32) := ck a2 9 (Option.bind (mX2_overbooked N u1 (I (u1 + 1) a2.toNatClampNeg) I) (fun r2 => if r2 = 0 then (some 0) else (Option.bind (mX2_weakerOn N u1 r2 (I 11 a2.toNatClampNeg) I) (fun r5 => Option.bind (mX2_whomToPush_44 N u1 r2 r5 I N 0 0 1) (fun y19 => some y19)))))
set_option maxHeartbeats 4000000 in
set_option maxRecDepth 100000 in
theorem wX2_whomToPush_44 (N : Nat) (d : Nat) (hd : 2 ≤ d) {S : gS} {J : gJ} (hS : Sh S) (t1 : Nat) (u1 : Nat) (hL1 : IsLe S t1 u1) (k2 : Int32) (k3 : Int32) (I : gI) {Q : gO → gS → gI → gJ → Prop} :
    ∀ (n : Nat) (v4 : Int32) (v5 : Int32) (v6 : Int32) (res : Int32), mX2_whomToPush_44 N u1 k2 k3 I n v4 v5 v6 = some res → (∀ (o4 : Int32), res = o4 → Wp RX2 cX2_whomToPush 8 (some .int) [] hF d 0 0 103 [(4, .int o4)] [] S I J Q) → Wp RX2 cX2_whomToPush 8 (some .int) [] hF d 0 0 44 [(0, .ref t1), (2, .int k2), (3, .int k3), (4, .int v4), (5, .int v5), (6, .int v6)] [] S I J Q := by
  intro n
  induction n with
  | zero => intro v4 v5 v6 res h; exact nso h
  | succ n ih =>
    intro v4 v5 v6 res h kx
    rw [mX2_whomToPush_44] at h
    refine wp_iload dX2_whomToPush_44 rfl ?_
    refine wp_iload_n dX2_whomToPush_46 rfl rfl ?_
    refine wp_icmp_gt (tgt := 103) dX2_whomToPush_47 (by decide) (fun hc7 => ?_) (fun hc7 => ?_)
    · have h := ite_t hc7 h
      exact wp_pick (ks := [3]) rfl (kx _ (sji h).symm)
    · have h := ite_f hc7 h
      refine wp_iload dX2_whomToPush_50 rfl ?_
      refine wp_iload_n dX2_whomToPush_52 rfl rfl ?_
      refine wp_iconst (v := (-1)) dX2_whomToPush_53 (by decide) ?_
      refine wp_ixor dX2_whomToPush_54 ?_
      refine wp_iand dX2_whomToPush_55 ?_
      refine wp_if_ne (tgt := 97) dX2_whomToPush_56 (by decide) (fun hc8 => ?_) (fun hc8 => ?_)
      · have h := ite_f hc8 h
        refine wp_iinc (v := 1) (ls' := [(6, .int (v6 + 1)), (0, .ref t1), (2, .int k2), (3, .int k3), (4, .int v4), (5, .int v5)]) dX2_whomToPush_97 rfl (by decide) (Nat.le_of_ble_eq_true rfl) rfl ?_
        refine wp_goto (tgt := 44) dX2_whomToPush_100 (by decide) ?_
        exact wp_pick (ks := [1, 2, 3, 4, 5, 0]) rfl (ih _ _ _ _ h kx)
      · have h := ite_t hc8 h
        refine wp_aload_n dX2_whomToPush_59 rfl rfl ?_
        refine wp_iload dX2_whomToPush_60 rfl ?_
        obtain ⟨r9, hF10, h⟩ := obi h
        refine wp_callVi (ci := 2) (As := [.int v6]) dX2_whomToPush_62 lbX2_costOf mlX2_137 imX2_costOf seX2_costOf vc2 (ct_X2_costOf N 0 (Nat.le_refl _) hS hL1 hF10) rfl rfl (Nat.le_trans (by decide) hd) hL1.1.1 hL1.1.2.1 (Nat.le_of_ble_eq_true rfl) (fun _ => ?_)
        refine wp_istore (ls' := [(7, .int r9), (0, .ref t1), (2, .int k2), (3, .int k3), (4, .int v4), (5, .int v5), (6, .int v6)]) dX2_whomToPush_65 (Nat.le_of_ble_eq_true rfl) rfl ?_
        refine wp_iload dX2_whomToPush_67 rfl ?_
        refine wp_if_eq (tgt := 79) dX2_whomToPush_69 (by decide) (fun hc11 => ?_) (fun hc11 => ?_)
        · have h := ite_t hc11 h
          refine wp_aload_n dX2_whomToPush_79 rfl rfl ?_
          refine wp_iload dX2_whomToPush_80 rfl ?_
          refine wp_iload_n dX2_whomToPush_82 rfl rfl ?_
          obtain ⟨r12, hF13, h⟩ := obi h
          refine wp_callVi (ci := 2) (As := [.int v6, .int k2]) dX2_whomToPush_83 lbX2_relieves mlX2_140 imX2_relieves seX2_relieves vc2 (ct_X2_relieves N 1 (Nat.le_refl _) hS hL1 hF13) rfl rfl (Nat.le_trans (by decide) hd) hL1.1.1 hL1.1.2.1 (Nat.le_of_ble_eq_true rfl) (fun _ => ?_)
          refine wp_if_eq (tgt := 97) dX2_whomToPush_86 (by decide) (fun hc14 => ?_) (fun hc14 => ?_)
          · have h := ite_t hc14 h
            refine wp_iinc (v := 1) (ls' := [(6, .int (v6 + 1)), (7, .int r9), (0, .ref t1), (2, .int k2), (3, .int k3), (4, .int v4), (5, .int v5)]) dX2_whomToPush_97 rfl (by decide) (Nat.le_of_ble_eq_true rfl) rfl ?_
            refine wp_goto (tgt := 44) dX2_whomToPush_100 (by decide) ?_
            exact wp_pick (ks := [2, 3, 4, 5, 6, 0]) rfl (ih _ _ _ _ h kx)
          · have h := ite_f hc14 h
            refine wp_iload dX2_whomToPush_89 rfl ?_
            refine wp_istore (ls' := [(5, .int r9), (7, .int r9), (0, .ref t1), (2, .int k2), (3, .int k3), (4, .int v4), (6, .int v6)]) dX2_whomToPush_91 (Nat.le_of_ble_eq_true rfl) rfl ?_
            refine wp_iload dX2_whomToPush_93 rfl ?_
            refine wp_istore (ls' := [(4, .int v6), (5, .int r9), (7, .int r9), (0, .ref t1), (2, .int k2), (3, .int k3), (6, .int v6)]) dX2_whomToPush_95 (Nat.le_of_ble_eq_true rfl) rfl ?_
            refine wp_iinc (v := 1) (ls' := [(6, .int (v6 + 1)), (4, .int v6), (5, .int r9), (7, .int r9), (0, .ref t1), (2, .int k2), (3, .int k3)]) dX2_whomToPush_97 rfl (by decide) (Nat.le_of_ble_eq_true rfl) rfl ?_
            refine wp_goto (tgt := 44) dX2_whomToPush_100 (by decide) ?_
            exact wp_pick (ks := [4, 5, 6, 1, 2, 0]) rfl (ih _ _ _ _ h kx)
        · have h := ite_f hc11 h
          refine wp_iload dX2_whomToPush_72 rfl ?_
          refine wp_iload dX2_whomToPush_74 rfl ?_
          refine wp_icmp_ge (tgt := 97) dX2_whomToPush_76 (by decide) (fun hc15 => ?_) (fun hc15 => ?_)
          · have h := ite_t hc15 h
            refine wp_iinc (v := 1) (ls' := [(6, .int (v6 + 1)), (7, .int r9), (0, .ref t1), (2, .int k2), (3, .int k3), (4, .int v4), (5, .int v5)]) dX2_whomToPush_97 rfl (by decide) (Nat.le_of_ble_eq_true rfl) rfl ?_
            refine wp_goto (tgt := 44) dX2_whomToPush_100 (by decide) ?_
            exact wp_pick (ks := [2, 3, 4, 5, 6, 0]) rfl (ih _ _ _ _ h kx)
          · have h := ite_f hc15 h
            refine wp_aload_n dX2_whomToPush_79 rfl rfl ?_
            refine wp_iload dX2_whomToPush_80 rfl ?_
            refine wp_iload_n dX2_whomToPush_82 rfl rfl ?_
            obtain ⟨r16, hF17, h⟩ := obi h
            refine wp_callVi (ci := 2) (As := [.int v6, .int k2]) dX2_whomToPush_83 lbX2_relieves mlX2_140 imX2_relieves seX2_relieves vc2 (ct_X2_relieves N 1 (Nat.le_refl _) hS hL1 hF17) rfl rfl (Nat.le_trans (by decide) hd) hL1.1.1 hL1.1.2.1 (Nat.le_of_ble_eq_true rfl) (fun _ => ?_)
            refine wp_if_eq (tgt := 97) dX2_whomToPush_86 (by decide) (fun hc18 => ?_) (fun hc18 => ?_)
            · have h := ite_t hc18 h
              refine wp_iinc (v := 1) (ls' := [(6, .int (v6 + 1)), (7, .int r9), (0, .ref t1), (2, .int k2), (3, .int k3), (4, .int v4), (5, .int v5)]) dX2_whomToPush_97 rfl (by decide) (Nat.le_of_ble_eq_true rfl) rfl ?_
              refine wp_goto (tgt := 44) dX2_whomToPush_100 (by decide) ?_
              exact wp_pick (ks := [2, 3, 4, 5, 6, 0]) rfl (ih _ _ _ _ h kx)
            · have h := ite_f hc18 h
              refine wp_iload dX2_whomToPush_89 rfl ?_
              refine wp_istore (ls' := [(5, .int r9), (7, .int r9), (0, .ref t1), (2, .int k2), (3, .int k3), (4, .int v4), (6, .int v6)]) dX2_whomToPush_91 (Nat.le_of_ble_eq_true rfl) rfl ?_
              refine wp_iload dX2_whomToPush_93 rfl ?_
              refine wp_istore (ls' := [(4, .int v6), (5, .int r9), (7, .int r9), (0, .ref t1), (2, .int k2), (3, .int k3), (6, .int v6)]) dX2_whomToPush_95 (Nat.le_of_ble_eq_true rfl) rfl ?_
              refine wp_iinc (v := 1) (ls' := [(6, .int (v6 + 1)), (4, .int v6), (5, .int r9), (7, .int r9), (0, .ref t1), (2, .int k2), (3, .int k3)]) dX2_whomToPush_97 rfl (by decide) (Nat.le_of_ble_eq_true rfl) rfl ?_
              refine wp_goto (tgt := 44) dX2_whomToPush_100 (by decide) ?_
              exact wp_pick (ks := [4, 5, 6, 1, 2, 0]) rfl (ih _ _ _ _ h kx)
set_option maxHeartbeats 4000000 in
set_option maxRecDepth 100000 in
theorem ct_X2_whomToPush (N : Nat) (d : Nat) (hd : 2 ≤ d) {S : gS} {J : gJ} (hS : Sh S) {t1 : Nat} {u1 : Nat} (hL1 : IsLe S t1 u1) {a2 : Int32} {I : gI} {r : Int32} (h : mX2_whomToPush N u1 a2 I = some r) : Ct yX2_whomToPush (wsY yX2_whomToPush cX2_whomToPush 8 (some .int)) d 0 0 [.ref t1, .int a2] S I J (qE (.inl (some (.int r))) S I J) := by
  refine Ct.of hF (fun _ _ _ _ _ => trivial) (by decide +kernel) (Nat.le_of_ble_eq_true rfl) ⟨Or.inl hL1.1.2.1, trivial, trivial⟩ ?_
  show Wp RX2 cX2_whomToPush 8 (some .int) [] hF d 0 0 0 [(0, .ref t1), (1, .int a2)] [] S I J _
  unfold mX2_whomToPush at h
  refine wp_aload_n dX2_whomToPush_0 rfl rfl ?_
  refine wp_aload_n dX2_whomToPush_1 rfl rfl ?_
  refine wp_getR dX2_whomToPush_2 flX2_19 rfl hL1.1.1 hL1.1.2.1 hL1.1.2.2.2.2 ?_
  refine wp_getR dX2_whomToPush_5 flX2_29 rfl hL1.2.1 hL1.2.n0 hL1.2.2.2.2.2.1 ?_
  refine wp_iload_n dX2_whomToPush_8 rfl rfl ?_
  obtain ⟨hb1, h⟩ := ck_inv h
  refine wp_iald dX2_whomToPush_9 hL1.2.2.2.1 hL1.2.n1 hb1 ?_
  obtain ⟨r2, hF3, h⟩ := obi h
  refine wp_callVi (ci := 2) (As := [.int (I (u1 + 1) a2.toNatClampNeg)]) dX2_whomToPush_10 lbX2_overbooked mlX2_130 imX2_overbooked seX2_overbooked vc2 (ct_X2_overbooked N 1 (Nat.le_refl _) hS hL1 hF3) rfl rfl (Nat.le_trans (by decide) hd) hL1.1.1 hL1.1.2.1 (Nat.le_of_ble_eq_true rfl) (fun _ => ?_)
  refine wp_istore_n (ls' := [(2, .int r2), (0, .ref t1), (1, .int a2)]) dX2_whomToPush_13 rfl (Nat.le_of_ble_eq_true rfl) rfl ?_
  refine wp_iload_n dX2_whomToPush_14 rfl rfl ?_
  refine wp_if_ne (tgt := 20) dX2_whomToPush_15 (by decide) (fun hc4 => ?_) (fun hc4 => ?_)
  · have h := ite_f hc4 h
    refine wp_aload_n dX2_whomToPush_20 rfl rfl ?_
    refine wp_iload_n dX2_whomToPush_21 rfl rfl ?_
    refine wp_aload_n dX2_whomToPush_22 rfl rfl ?_
    refine wp_getR dX2_whomToPush_23 flX2_9 rfl hL1.1.1 hL1.1.2.1 hL1.1.2.2.1 ?_
    refine wp_getR dX2_whomToPush_26 flX2_91 rfl (sk2 hS) (sn2 hS) (sr2_11 hS) ?_
    refine wp_iload_n dX2_whomToPush_29 rfl rfl ?_
    refine wp_iald dX2_whomToPush_30 (sk11 hS) (sn11 hS) hb1 ?_
    obtain ⟨r5, hF6, h⟩ := obi h
    refine wp_callVi (ci := 2) (As := [.int r2, .int (I 11 a2.toNatClampNeg)]) dX2_whomToPush_31 lbX2_weakerOn mlX2_133 imX2_weakerOn seX2_weakerOn vc2 (ct_X2_weakerOn N 0 (Nat.le_refl _) hS hL1 hF6) rfl rfl (Nat.le_trans (by decide) hd) hL1.1.1 hL1.1.2.1 (Nat.le_of_ble_eq_true rfl) (fun _ => ?_)
    refine wp_istore_n (ls' := [(3, .int r5), (2, .int r2), (0, .ref t1), (1, .int a2)]) dX2_whomToPush_34 rfl (Nat.le_of_ble_eq_true rfl) rfl ?_
    refine wp_iconst (v := 0) dX2_whomToPush_35 (by decide) ?_
    refine wp_istore (ls' := [(4, .int 0), (3, .int r5), (2, .int r2), (0, .ref t1), (1, .int a2)]) dX2_whomToPush_36 (Nat.le_of_ble_eq_true rfl) rfl ?_
    refine wp_iconst (v := 0) dX2_whomToPush_38 (by decide) ?_
    refine wp_istore (ls' := [(5, .int 0), (4, .int 0), (3, .int r5), (2, .int r2), (0, .ref t1), (1, .int a2)]) dX2_whomToPush_39 (Nat.le_of_ble_eq_true rfl) rfl ?_
    refine wp_iconst (v := 1) dX2_whomToPush_41 (by decide) ?_
    refine wp_istore (ls' := [(6, .int 1), (5, .int 0), (4, .int 0), (3, .int r5), (2, .int r2), (0, .ref t1), (1, .int a2)]) dX2_whomToPush_42 (Nat.le_of_ble_eq_true rfl) rfl ?_
    obtain ⟨y19, hL920, h⟩ := obi h
    refine wp_pick (ks := [5, 4, 3, 2, 1, 0]) rfl (wX2_whomToPush_44 N d hd hS t1 u1 hL1 r2 r5 I N 0 0 1 _ hL920 (fun _ e21 => ?_))
    cases e21
    refine wp_iload dX2_whomToPush_103 rfl ?_
    exact wp_iret dX2_whomToPush_105 rfl (by obtain rfl := sji h; exact ⟨rfl, rfl, rfl, rfl⟩)
  · have h := ite_t hc4 h
    refine wp_iconst (v := 0) dX2_whomToPush_18 (by decide) ?_
    exact wp_iret dX2_whomToPush_19 rfl (by obtain rfl := sji h; exact ⟨rfl, rfl, rfl, rfl⟩)
def mJ6_bitCount_0f7a4 (a1 : Int32) (I : gI) : Option (Int32) := nm ((ushr (a1 - ((ushr a1 1) &&& 1431655765)) 2) &&& 858993459) (fun x1 => nm (ushr (((a1 - ((ushr a1 1) &&& 1431655765)) &&& 858993459) + x1) 4) (fun x3 => nm ((((a1 - ((ushr a1 1) &&& 1431655765)) &&& 858993459) + x1) + x3) (fun x5 => nm (ushr ((x5 &&& 252645135) + (ushr (x5 &&& 252645135) 8)) 16) (fun x7 => nm ((((x5 &&& 252645135) + (ushr (x5 &&& 252645135) 8)) + x7) &&& 63) (fun x9 => some x9)))))
set_option maxHeartbeats 4000000 in
set_option maxRecDepth 100000 in
theorem ct_J6_bitCount_0f7a4 (d : Nat) (hd : 0 ≤ d) {S : gS} {J : gJ} (hS : Sh S)  {a1 : Int32} {I : gI} {r : Int32} (h : mJ6_bitCount_0f7a4 a1 I = some r) : Ct yJ6_bitCount_0f7a4 (wsY yJ6_bitCount_0f7a4 cJ6_bitCount_0f7a4 1 (some .int)) d 0 0 [.int a1] S I J (qE (.inl (some (.int r))) S I J) := by
  refine Ct.of hF (fun _ _ _ _ _ => trivial) (by decide +kernel) (Nat.le_of_ble_eq_true rfl) ⟨trivial, trivial⟩ ?_
  show Wp RJ6 cJ6_bitCount_0f7a4 1 (some .int) [] hF d 0 0 0 [(0, .int a1)] [] S I J _
  unfold mJ6_bitCount_0f7a4 at h
  refine wp_iload_n dJ6_bitCount_0f7a4_0 rfl rfl ?_
  refine wp_iload_n dJ6_bitCount_0f7a4_1 rfl rfl ?_
  refine wp_iconst (v := 1) dJ6_bitCount_0f7a4_2 (by decide) ?_
  refine wp_iushr dJ6_bitCount_0f7a4_3 ?_
  refine wp_ldc_w dJ6_bitCount_0f7a4_4 koJ6_265 ?_
  refine wp_iand dJ6_bitCount_0f7a4_7 ?_
  refine wp_isub dJ6_bitCount_0f7a4_8 ?_
  refine wp_istore_n (ls' := [(0, .int (a1 - ((ushr a1 1) &&& 1431655765)))]) dJ6_bitCount_0f7a4_9 rfl (Nat.le_of_ble_eq_true rfl) rfl ?_
  refine wp_iload_n dJ6_bitCount_0f7a4_10 rfl rfl ?_
  refine wp_ldc_w dJ6_bitCount_0f7a4_11 koJ6_266 ?_
  refine wp_iand dJ6_bitCount_0f7a4_14 ?_
  refine wp_iload_n dJ6_bitCount_0f7a4_15 rfl rfl ?_
  refine wp_iconst (v := 2) dJ6_bitCount_0f7a4_16 (by decide) ?_
  refine wp_iushr dJ6_bitCount_0f7a4_17 ?_
  refine wp_ldc_w dJ6_bitCount_0f7a4_18 koJ6_266 ?_
  refine wp_iand dJ6_bitCount_0f7a4_21 ?_
  obtain ⟨x1, hx2, h⟩ := nm_inv h
  refine wp_topi hx2 ?_
  refine wp_iadd dJ6_bitCount_0f7a4_22 ?_
  refine wp_istore_n (ls' := [(0, .int (((a1 - ((ushr a1 1) &&& 1431655765)) &&& 858993459) + x1))]) dJ6_bitCount_0f7a4_23 rfl (Nat.le_of_ble_eq_true rfl) rfl ?_
  refine wp_iload_n dJ6_bitCount_0f7a4_24 rfl rfl ?_
  refine wp_iload_n dJ6_bitCount_0f7a4_25 rfl rfl ?_
  refine wp_iconst (v := 4) dJ6_bitCount_0f7a4_26 (by decide) ?_
  refine wp_iushr dJ6_bitCount_0f7a4_27 ?_
  obtain ⟨x3, hx4, h⟩ := nm_inv h
  refine wp_topi hx4 ?_
  refine wp_iadd dJ6_bitCount_0f7a4_28 ?_
  obtain ⟨x5, hx6, h⟩ := nm_inv h
  refine wp_topi hx6 ?_
  refine wp_ldc_w dJ6_bitCount_0f7a4_29 koJ6_267 ?_
  refine wp_iand dJ6_bitCount_0f7a4_32 ?_
  refine wp_istore_n (ls' := [(0, .int (x5 &&& 252645135))]) dJ6_bitCount_0f7a4_33 rfl (Nat.le_of_ble_eq_true rfl) rfl ?_
  refine wp_iload_n dJ6_bitCount_0f7a4_34 rfl rfl ?_
  refine wp_iload_n dJ6_bitCount_0f7a4_35 rfl rfl ?_
  refine wp_bipush (v := 8) dJ6_bitCount_0f7a4_36 (by decide) ?_
  refine wp_iushr dJ6_bitCount_0f7a4_38 ?_
  refine wp_iadd dJ6_bitCount_0f7a4_39 ?_
  refine wp_istore_n (ls' := [(0, .int ((x5 &&& 252645135) + (ushr (x5 &&& 252645135) 8)))]) dJ6_bitCount_0f7a4_40 rfl (Nat.le_of_ble_eq_true rfl) rfl ?_
  refine wp_iload_n dJ6_bitCount_0f7a4_41 rfl rfl ?_
  refine wp_iload_n dJ6_bitCount_0f7a4_42 rfl rfl ?_
  refine wp_bipush (v := 16) dJ6_bitCount_0f7a4_43 (by decide) ?_
  refine wp_iushr dJ6_bitCount_0f7a4_45 ?_
  obtain ⟨x7, hx8, h⟩ := nm_inv h
  refine wp_topi hx8 ?_
  refine wp_iadd dJ6_bitCount_0f7a4_46 ?_
  refine wp_istore_n (ls' := [(0, .int (((x5 &&& 252645135) + (ushr (x5 &&& 252645135) 8)) + x7))]) dJ6_bitCount_0f7a4_47 rfl (Nat.le_of_ble_eq_true rfl) rfl ?_
  refine wp_iload_n dJ6_bitCount_0f7a4_48 rfl rfl ?_
  refine wp_bipush (v := 63) dJ6_bitCount_0f7a4_49 (by decide) ?_
  refine wp_iand dJ6_bitCount_0f7a4_51 ?_
  obtain ⟨x9, hx10, h⟩ := nm_inv h
  refine wp_topi hx10 ?_
  exact wp_iret dJ6_bitCount_0f7a4_52 rfl (by obtain rfl := sji h; exact ⟨rfl, rfl, rfl, rfl⟩)
def mX2_settle_7 (N : Nat) (u1 : Nat) : Nat → Int32 → Int32 → Int32 → gI → Option (Int32 × gI)
  | 0, _, _, _, _ => none
  | n + 1, v2, v3, v4, I => if 9 ≤ v4 then (some (v3, I)) else (if v2 = 0 then (some (v3, I)) else (Option.bind (mX2_strongest N u1 v2 I) (fun r3 => ck r3 9 (Option.bind (mX2_bestWay N u1 r3 (I (u1 + 2) r3.toNatClampNeg) (I 11 r3.toNatClampNeg) I) (fun (r6, I7) => if r6 = 0 then (mX2_settle_7 N u1 n (v2 &&& (((1 : Int32) <<< (r3 &&& 31)) ^^^ (-1))) v3 (v4 + 1) I7) else (Option.bind (mX2_whomToPush N u1 r3 (upd2 I7 (u1 + 1) r3.toNatClampNeg r6)) (fun r10 => Option.bind (mX2_drop N u1 r10 (upd2 I7 (u1 + 1) r3.toNatClampNeg r6)) (fun I12 => nm ((v2 &&& (((1 : Int32) <<< (r3 &&& 31)) ^^^ (-1))) ||| r10) (fun x14 => Option.bind (mJ6_bitCount_0f7a4 r10 I12) (fun r16 => mX2_settle_7 N u1 n x14 (v3 + r16) (v4 + 1) I12))))))))))
def mX2_settle (N : Nat) (u1 : Nat) (a2 : Int32) (I : gI) : Option (Int32 × gI) := Option.bind (mX2_settle_7 N u1 N a2 0 0 I) (fun (y18, I19) => some (y18, I19))
set_option maxHeartbeats 4000000 in
set_option maxRecDepth 100000 in
theorem wX2_settle_7 (N : Nat) (d : Nat) (hd : 4 ≤ d) {S : gS} {J : gJ} (hS : Sh S) (t1 : Nat) (u1 : Nat) (hL1 : IsLe S t1 u1) {Q : gO → gS → gI → gJ → Prop} :
    ∀ (n : Nat) (v2 : Int32) (v3 : Int32) (v4 : Int32) (I : gI) (res : Int32 × gI), mX2_settle_7 N u1 n v2 v3 v4 I = some res → (∀ (o3 : Int32) (O : gI), res = (o3, O) → Wp RX2 cX2_settle 8 (some .int) [] hF d 0 0 112 [(3, .int o3)] [] S O J Q) → Wp RX2 cX2_settle 8 (some .int) [] hF d 0 0 7 [(0, .ref t1), (2, .int v2), (3, .int v3), (4, .int v4)] [] S I J Q := by
  intro n
  induction n with
  | zero => intro v2 v3 v4 I res h; exact nso h
  | succ n ih =>
    intro v2 v3 v4 I res h kx
    rw [mX2_settle_7] at h
    refine wp_iload dX2_settle_7 rfl ?_
    refine wp_bipush (v := 9) dX2_settle_9 (by decide) ?_
    refine wp_icmp_ge (tgt := 112) dX2_settle_11 (by decide) (fun hc1 => ?_) (fun hc1 => ?_)
    · have h := ite_t hc1 h
      exact wp_pick (ks := [2]) rfl (kx _ _ (sji h).symm)
    · have h := ite_f hc1 h
      refine wp_iload_n dX2_settle_14 rfl rfl ?_
      refine wp_if_eq (tgt := 112) dX2_settle_15 (by decide) (fun hc2 => ?_) (fun hc2 => ?_)
      · have h := ite_t hc2 h
        exact wp_pick (ks := [2]) rfl (kx _ _ (sji h).symm)
      · have h := ite_f hc2 h
        refine wp_aload_n dX2_settle_18 rfl rfl ?_
        refine wp_iload_n dX2_settle_19 rfl rfl ?_
        obtain ⟨r3, hF4, h⟩ := obi h
        refine wp_callVi (ci := 2) (As := [.int v2]) dX2_settle_20 lbX2_strongest mlX2_118 imX2_strongest seX2_strongest vc2 (ct_X2_strongest N 0 (Nat.le_refl _) hS hL1 hF4) rfl rfl (Nat.le_trans (by decide) hd) hL1.1.1 hL1.1.2.1 (Nat.le_of_ble_eq_true rfl) (fun _ => ?_)
        refine wp_istore (ls' := [(5, .int r3), (0, .ref t1), (2, .int v2), (3, .int v3), (4, .int v4)]) dX2_settle_23 (Nat.le_of_ble_eq_true rfl) rfl ?_
        refine wp_iload_n dX2_settle_25 rfl rfl ?_
        refine wp_iconst (v := 1) dX2_settle_26 (by decide) ?_
        refine wp_iload dX2_settle_27 rfl ?_
        refine wp_ishl dX2_settle_29 ?_
        refine wp_iconst (v := (-1)) dX2_settle_30 (by decide) ?_
        refine wp_ixor dX2_settle_31 ?_
        refine wp_iand dX2_settle_32 ?_
        refine wp_istore_n (ls' := [(2, .int (v2 &&& (((1 : Int32) <<< (r3 &&& 31)) ^^^ (-1)))), (5, .int r3), (0, .ref t1), (3, .int v3), (4, .int v4)]) dX2_settle_33 rfl (Nat.le_of_ble_eq_true rfl) rfl ?_
        refine wp_aload_n dX2_settle_34 rfl rfl ?_
        refine wp_iload dX2_settle_35 rfl ?_
        refine wp_aload_n dX2_settle_37 rfl rfl ?_
        refine wp_getR dX2_settle_38 flX2_19 rfl hL1.1.1 hL1.1.2.1 hL1.1.2.2.2.2 ?_
        refine wp_getR dX2_settle_41 flX2_45 rfl hL1.2.1 hL1.2.n0 hL1.2.2.2.2.2.2 ?_
        refine wp_iload dX2_settle_44 rfl ?_
        obtain ⟨hb5, h⟩ := ck_inv h
        refine wp_iald dX2_settle_46 hL1.2.2.2.2.1 hL1.2.n2 hb5 ?_
        refine wp_aload_n dX2_settle_47 rfl rfl ?_
        refine wp_getR dX2_settle_48 flX2_9 rfl hL1.1.1 hL1.1.2.1 hL1.1.2.2.1 ?_
        refine wp_getR dX2_settle_51 flX2_91 rfl (sk2 hS) (sn2 hS) (sr2_11 hS) ?_
        refine wp_iload dX2_settle_54 rfl ?_
        refine wp_iald dX2_settle_56 (sk11 hS) (sn11 hS) hb5 ?_
        obtain ⟨⟨r6, I7⟩, hF8, h⟩ := obi h
        refine wp_callVi (ci := 2) (As := [.int r3, .int (I (u1 + 2) r3.toNatClampNeg), .int (I 11 r3.toNatClampNeg)]) dX2_settle_57 lbX2_bestWay mlX2_94 imX2_bestWay seX2_bestWay vc2 (ct_X2_bestWay N 3 (Nat.le_refl _) hS hL1 hF8) rfl rfl (Nat.le_trans (by decide) hd) hL1.1.1 hL1.1.2.1 (Nat.le_of_ble_eq_true rfl) (fun _ => ?_)
        refine wp_istore (ls' := [(6, .int r6), (2, .int (v2 &&& (((1 : Int32) <<< (r3 &&& 31)) ^^^ (-1)))), (5, .int r3), (0, .ref t1), (3, .int v3), (4, .int v4)]) dX2_settle_60 (Nat.le_of_ble_eq_true rfl) rfl ?_
        refine wp_iload dX2_settle_62 rfl ?_
        refine wp_if_eq (tgt := 106) dX2_settle_64 (by decide) (fun hc9 => ?_) (fun hc9 => ?_)
        · have h := ite_t hc9 h
          refine wp_iinc (v := 1) (ls' := [(4, .int (v4 + 1)), (6, .int r6), (2, .int (v2 &&& (((1 : Int32) <<< (r3 &&& 31)) ^^^ (-1)))), (5, .int r3), (0, .ref t1), (3, .int v3)]) dX2_settle_106 rfl (by decide) (Nat.le_of_ble_eq_true rfl) rfl ?_
          refine wp_goto (tgt := 7) dX2_settle_109 (by decide) ?_
          exact wp_pick (ks := [4, 2, 5, 0]) rfl (ih _ _ _ _ _ h kx)
        · have h := ite_f hc9 h
          refine wp_aload_n dX2_settle_67 rfl rfl ?_
          refine wp_getR dX2_settle_68 flX2_19 rfl hL1.1.1 hL1.1.2.1 hL1.1.2.2.2.2 ?_
          refine wp_getR dX2_settle_71 flX2_29 rfl hL1.2.1 hL1.2.n0 hL1.2.2.2.2.2.1 ?_
          refine wp_iload dX2_settle_74 rfl ?_
          refine wp_iload dX2_settle_76 rfl ?_
          refine wp_iast dX2_settle_78 hL1.2.2.2.1 hL1.2.n1 hb5 ?_
          refine wp_aload_n dX2_settle_79 rfl rfl ?_
          refine wp_iload dX2_settle_80 rfl ?_
          obtain ⟨r10, hF11, h⟩ := obi h
          refine wp_callVi (ci := 2) (As := [.int r3]) dX2_settle_82 lbX2_whomToPush mlX2_121 imX2_whomToPush seX2_whomToPush vc2 (ct_X2_whomToPush N 2 (Nat.le_refl _) hS hL1 hF11) rfl rfl (Nat.le_trans (by decide) hd) hL1.1.1 hL1.1.2.1 (Nat.le_of_ble_eq_true rfl) (fun _ => ?_)
          refine wp_istore (ls' := [(7, .int r10), (6, .int r6), (2, .int (v2 &&& (((1 : Int32) <<< (r3 &&& 31)) ^^^ (-1)))), (5, .int r3), (0, .ref t1), (3, .int v3), (4, .int v4)]) dX2_settle_85 (Nat.le_of_ble_eq_true rfl) rfl ?_
          refine wp_aload_n dX2_settle_87 rfl rfl ?_
          refine wp_iload dX2_settle_88 rfl ?_
          obtain ⟨I12, hF13, h⟩ := obi h
          refine wp_callVv (ci := 2) (As := [.int r10]) dX2_settle_90 lbX2_drop mlX2_114 imX2_drop seX2_drop vc2 (ct_X2_drop N 0 (Nat.le_refl _) hS hL1 hF13) rfl rfl (Nat.le_trans (by decide) hd) hL1.1.1 hL1.1.2.1 (Nat.le_of_ble_eq_true rfl) (fun _ => ?_)
          refine wp_iload_n dX2_settle_93 rfl rfl ?_
          refine wp_iload dX2_settle_94 rfl ?_
          refine wp_ior dX2_settle_96 ?_
          obtain ⟨x14, hx15, h⟩ := nm_inv h
          refine wp_topi hx15 ?_
          refine wp_istore_n (ls' := [(2, .int x14), (7, .int r10), (6, .int r6), (5, .int r3), (0, .ref t1), (3, .int v3), (4, .int v4)]) dX2_settle_97 rfl (Nat.le_of_ble_eq_true rfl) rfl ?_
          refine wp_iload_n dX2_settle_98 rfl rfl ?_
          refine wp_iload dX2_settle_99 rfl ?_
          obtain ⟨r16, hF17, h⟩ := obi h
          refine wp_callSi (As := [.int r10]) dX2_settle_101 lbJ6_bitCount_0f7a4 mlX2_124 smJ6_bitCount_0f7a4 (ct_J6_bitCount_0f7a4 0 (Nat.le_refl _) hS  hF17) rfl rfl (Nat.le_trans (by decide) hd) (Nat.le_of_ble_eq_true rfl) (fun _ => ?_)
          refine wp_iadd dX2_settle_104 ?_
          refine wp_istore_n (ls' := [(3, .int (v3 + r16)), (2, .int x14), (7, .int r10), (6, .int r6), (5, .int r3), (0, .ref t1), (4, .int v4)]) dX2_settle_105 rfl (Nat.le_of_ble_eq_true rfl) rfl ?_
          refine wp_iinc (v := 1) (ls' := [(4, .int (v4 + 1)), (3, .int (v3 + r16)), (2, .int x14), (7, .int r10), (6, .int r6), (5, .int r3), (0, .ref t1)]) dX2_settle_106 rfl (by decide) (Nat.le_of_ble_eq_true rfl) rfl ?_
          refine wp_goto (tgt := 7) dX2_settle_109 (by decide) ?_
          exact wp_pick (ks := [6, 2, 1, 0]) rfl (ih _ _ _ _ _ h kx)
set_option maxHeartbeats 4000000 in
set_option maxRecDepth 100000 in
theorem ct_X2_settle (N : Nat) (d : Nat) (hd : 4 ≤ d) {S : gS} {J : gJ} (hS : Sh S) {t1 : Nat} {u1 : Nat} (hL1 : IsLe S t1 u1) {a2 : Int32} {I : gI} {r : Int32 × gI} (h : mX2_settle N u1 a2 I = some r) : Ct yX2_settle (wsY yX2_settle cX2_settle 8 (some .int)) d 0 0 [.ref t1, .int a2] S I J (qE (.inl (some (.int r.1))) S r.2 J) := by
  refine Ct.of hF (fun _ _ _ _ _ => trivial) (by decide +kernel) (Nat.le_of_ble_eq_true rfl) ⟨Or.inl hL1.1.2.1, trivial, trivial⟩ ?_
  show Wp RX2 cX2_settle 8 (some .int) [] hF d 0 0 0 [(0, .ref t1), (1, .int a2)] [] S I J _
  unfold mX2_settle at h
  refine wp_iload_n dX2_settle_0 rfl rfl ?_
  refine wp_istore_n (ls' := [(2, .int a2), (0, .ref t1), (1, .int a2)]) dX2_settle_1 rfl (Nat.le_of_ble_eq_true rfl) rfl ?_
  refine wp_iconst (v := 0) dX2_settle_2 (by decide) ?_
  refine wp_istore_n (ls' := [(3, .int 0), (2, .int a2), (0, .ref t1), (1, .int a2)]) dX2_settle_3 rfl (Nat.le_of_ble_eq_true rfl) rfl ?_
  refine wp_iconst (v := 0) dX2_settle_4 (by decide) ?_
  refine wp_istore (ls' := [(4, .int 0), (3, .int 0), (2, .int a2), (0, .ref t1), (1, .int a2)]) dX2_settle_5 (Nat.le_of_ble_eq_true rfl) rfl ?_
  obtain ⟨⟨y18, I19⟩, hL920, h⟩ := obi h
  refine wp_pick (ks := [3, 2, 1, 0]) rfl (wX2_settle_7 N d hd hS t1 u1 hL1  N a2 0 0 I _ hL920 (fun _ _ e21 => ?_))
  cases e21
  refine wp_iload_n dX2_settle_112 rfl rfl ?_
  exact wp_iret dX2_settle_113 rfl (by obtain rfl := sji h; exact ⟨rfl, rfl, rfl, rfl⟩)
def mX6_widestOf_3 (k1 : Int32) (k2 : Int32) (k3 : Int32) (k4 : Int32) : Nat → Int32 → gI → Option (gI)
  | 0, _, _ => none
  | n + 1, v5, I => if 8 ≤ v5 then (some I) else (if v5 = k2 then (ck v5 64 (mX6_widestOf_3 k1 k2 k3 k4 n (v5 + 1) (upd2 I 33 v5.toNatClampNeg 1000000))) else (ck v5 64 (mX6_widestOf_3 k1 k2 k3 k4 n (v5 + 1) (upd2 I 33 v5.toNatClampNeg 0))))
def mX6_widestOf_82 (k1 : Int32) (k3 : Int32) (k4 : Int32) (k5 : Int32) (k6 : Int32) (k7 : Int32) : Nat → Int32 → gI → Option (gI)
  | 0, _, _ => none
  | n + 1, v8, I => if (I 2 1) ≤ v8 then (some I) else (ck v8 16 (if ((ushr k1 v8) &&& 1) = 0 then (mX6_widestOf_82 k1 k3 k4 k5 k6 k7 n (v8 + 1) I) else (ck (k5 + (I 4 v8.toNatClampNeg)) 64 (ck (k7 + (I 3 v8.toNatClampNeg)) 64 (nm (if (I 33 (k7 + (I 3 v8.toNatClampNeg)).toNatClampNeg) < (I 31 v8.toNatClampNeg) then (I 33 (k7 + (I 3 v8.toNatClampNeg)).toNatClampNeg) else (I 31 v8.toNatClampNeg)) (fun x19 => nm (if (I 33 (k5 + (I 4 v8.toNatClampNeg)).toNatClampNeg) < x19 then x19 else (I 33 (k5 + (I 4 v8.toNatClampNeg)).toNatClampNeg)) (fun x21 => mX6_widestOf_82 k1 k3 k4 k5 k6 k7 n (v8 + 1) (upd2 I 33 (k5 + (I 4 v8.toNatClampNeg)).toNatClampNeg x21))))))))
def mX6_widestOf_41 (N : Nat) (k1 : Int32) (k3 : Int32) (k4 : Int32) : Nat → Int32 → Int32 → gI → Option (Int32 × gI)
  | 0, _, _, _ => none
  | n + 1, v5, v6, I => if k4 ≤ v6 then (some (v5, I)) else (if 7 ≤ v6 then (some (v5, I)) else (nn v5 (nn (v5 + 8) (lt9 (v5.toNatClampNeg + (8 : Int32).toNatClampNeg) 64 (lt9 ((v5 + 8).toNatClampNeg + (8 : Int32).toNatClampNeg) 64 (nm (updRow I 33 (va_cpy (I 33) (I 33) v5.toNatClampNeg (v5 + 8).toNatClampNeg (8 : Int32).toNatClampNeg)) (fun I12 => Option.bind (mX6_widestOf_82 k1 k3 k4 (v5 + 8) v6 v5 N 0 I12) (fun I23 => mX6_widestOf_41 N k1 k3 k4 n (v5 + 8) (v6 + 1) I23))))))))
def mX6_widestOf (N : Nat) (a2 : Int32) (a3 : Int32) (a4 : Int32) (a5 : Int32) (I : gI) : Option (Int32 × gI) := Option.bind (mX6_widestOf_3 a2 a3 a4 a5 N 0 I) (fun I5 => Option.bind (mX6_widestOf_41 N a2 a4 a5 N 0 0 I5) (fun (y26, I27) => ck (y26 + a4) 64 (some (I27 33 (y26 + a4).toNatClampNeg, I27))))
set_option maxHeartbeats 4000000 in
set_option maxRecDepth 100000 in
theorem wX6_widestOf_3 (d : Nat) (hd : 1 ≤ d) {S : gS} {J : gJ} (hS : Sh S)  (k1 : Int32) (k2 : Int32) (k3 : Int32) (k4 : Int32) {Q : gO → gS → gI → gJ → Prop} :
    ∀ (n : Nat) (v5 : Int32) (I : gI) (res : gI), mX6_widestOf_3 k1 k2 k3 k4 n v5 I = some res → (∀ (O : gI), res = O → Wp RX6 cX6_widestOf 10 (some .int) [] hF d 0 0 35 [(0, .ref 30), (1, .int k1), (3, .int k3), (4, .int k4)] [] S O J Q) → Wp RX6 cX6_widestOf 10 (some .int) [] hF d 0 0 3 [(0, .ref 30), (1, .int k1), (2, .int k2), (3, .int k3), (4, .int k4), (5, .int v5)] [] S I J Q := by
  intro n
  induction n with
  | zero => intro v5 I res h; exact nso h
  | succ n ih =>
    intro v5 I res h kx
    rw [mX6_widestOf_3] at h
    refine wp_iload dX6_widestOf_3 rfl ?_
    refine wp_bipush (v := 8) dX6_widestOf_5 (by decide) ?_
    refine wp_icmp_ge (tgt := 35) dX6_widestOf_7 (by decide) (fun hc1 => ?_) (fun hc1 => ?_)
    · have h := ite_t hc1 h
      exact wp_pick (ks := [0, 1, 3, 4]) rfl (kx _ (sji h).symm)
    · have h := ite_f hc1 h
      refine wp_aload_n dX6_widestOf_10 rfl rfl ?_
      refine wp_getR dX6_widestOf_11 flX6_18 rfl (sk30 hS) (sn30 hS) (sr30_3 hS) ?_
      refine wp_iload dX6_widestOf_14 rfl ?_
      refine wp_iload dX6_widestOf_16 rfl ?_
      refine wp_iload_n dX6_widestOf_18 rfl rfl ?_
      refine wp_icmp_ne (tgt := 27) dX6_widestOf_19 (by decide) (fun hc2 => ?_) (fun hc2 => ?_)
      · have h := ite_f hc2 h
        refine wp_iconst (v := 0) dX6_widestOf_27 (by decide) ?_
        obtain ⟨hb3, h⟩ := ck_inv h
        refine wp_iast dX6_widestOf_28 (sk33 hS) (sn33 hS) hb3 ?_
        refine wp_iinc (v := 1) (ls' := [(5, .int (v5 + 1)), (0, .ref 30), (1, .int k1), (2, .int k2), (3, .int k3), (4, .int k4)]) dX6_widestOf_29 rfl (by decide) (Nat.le_of_ble_eq_true rfl) rfl ?_
        refine wp_goto (tgt := 3) dX6_widestOf_32 (by decide) ?_
        exact wp_pick (ks := [1, 2, 3, 4, 5, 0]) rfl (ih _ _ _ h kx)
      · have h := ite_t hc2 h
        refine wp_ldc dX6_widestOf_22 koX6_43 ?_
        refine wp_goto (tgt := 28) dX6_widestOf_24 (by decide) ?_
        obtain ⟨hb4, h⟩ := ck_inv h
        refine wp_iast dX6_widestOf_28 (sk33 hS) (sn33 hS) hb4 ?_
        refine wp_iinc (v := 1) (ls' := [(5, .int (v5 + 1)), (0, .ref 30), (1, .int k1), (2, .int k2), (3, .int k3), (4, .int k4)]) dX6_widestOf_29 rfl (by decide) (Nat.le_of_ble_eq_true rfl) rfl ?_
        refine wp_goto (tgt := 3) dX6_widestOf_32 (by decide) ?_
        exact wp_pick (ks := [1, 2, 3, 4, 5, 0]) rfl (ih _ _ _ h kx)
set_option maxHeartbeats 4000000 in
set_option maxRecDepth 100000 in
theorem wX6_widestOf_82 (d : Nat) (hd : 1 ≤ d) {S : gS} {J : gJ} (hS : Sh S)  (k1 : Int32) (k3 : Int32) (k4 : Int32) (k5 : Int32) (k6 : Int32) (k7 : Int32) {Q : gO → gS → gI → gJ → Prop} :
    ∀ (n : Nat) (v8 : Int32) (I : gI) (res : gI), mX6_widestOf_82 k1 k3 k4 k5 k6 k7 n v8 I = some res → (∀ (O : gI), res = O → Wp RX6 cX6_widestOf 10 (some .int) [] hF d 0 0 169 [(0, .ref 30), (1, .int k1), (3, .int k3), (4, .int k4), (5, .int k5), (6, .int k6)] [] S O J Q) → Wp RX6 cX6_widestOf 10 (some .int) [] hF d 0 0 82 [(0, .ref 30), (1, .int k1), (3, .int k3), (4, .int k4), (5, .int k5), (6, .int k6), (7, .int k7), (8, .int v8)] [] S I J Q := by
  intro n
  induction n with
  | zero => intro v8 I res h; exact nso h
  | succ n ih =>
    intro v8 I res h kx
    rw [mX6_widestOf_82] at h
    refine wp_iload dX6_widestOf_82 rfl ?_
    refine wp_aload_n dX6_widestOf_84 rfl rfl ?_
    refine wp_getR dX6_widestOf_85 flX6_27 rfl (sk30 hS) (sn30 hS) (sr30_0 hS) ?_
    refine wp_getI dX6_widestOf_88 flX6_31 rfl (sk2 hS) (sn2 hS) ?_
    refine wp_icmp_ge (tgt := 169) dX6_widestOf_91 (by decide) (fun hc14 => ?_) (fun hc14 => ?_)
    · have h := ite_t hc14 h
      exact wp_pick (ks := [0, 1, 2, 3, 4, 5]) rfl (kx _ (sji h).symm)
    · have h := ite_f hc14 h
      refine wp_iload dX6_widestOf_94 rfl ?_
      refine wp_aload_n dX6_widestOf_96 rfl rfl ?_
      refine wp_getR dX6_widestOf_97 flX6_27 rfl (sk30 hS) (sn30 hS) (sr30_0 hS) ?_
      refine wp_getR dX6_widestOf_100 flX6_40 rfl (sk2 hS) (sn2 hS) (sr2_4 hS) ?_
      refine wp_iload dX6_widestOf_103 rfl ?_
      obtain ⟨hb15, h⟩ := ck_inv h
      refine wp_iald dX6_widestOf_105 (sk4 hS) (sn4 hS) hb15 ?_
      refine wp_iadd dX6_widestOf_106 ?_
      refine wp_istore (ls' := [(9, .int (k5 + (I 4 v8.toNatClampNeg))), (0, .ref 30), (1, .int k1), (3, .int k3), (4, .int k4), (5, .int k5), (6, .int k6), (7, .int k7), (8, .int v8)]) dX6_widestOf_107 (Nat.le_of_ble_eq_true rfl) rfl ?_
      refine wp_iload_n dX6_widestOf_109 rfl rfl ?_
      refine wp_iload dX6_widestOf_110 rfl ?_
      refine wp_iushr dX6_widestOf_112 ?_
      refine wp_iconst (v := 1) dX6_widestOf_113 (by decide) ?_
      refine wp_iand dX6_widestOf_114 ?_
      refine wp_if_eq (tgt := 163) dX6_widestOf_115 (by decide) (fun hc16 => ?_) (fun hc16 => ?_)
      · have h := ite_t hc16 h
        refine wp_iinc (v := 1) (ls' := [(8, .int (v8 + 1)), (9, .int (k5 + (I 4 v8.toNatClampNeg))), (0, .ref 30), (1, .int k1), (3, .int k3), (4, .int k4), (5, .int k5), (6, .int k6), (7, .int k7)]) dX6_widestOf_163 rfl (by decide) (Nat.le_of_ble_eq_true rfl) rfl ?_
        refine wp_goto (tgt := 82) dX6_widestOf_166 (by decide) ?_
        exact wp_pick (ks := [2, 3, 4, 5, 6, 7, 8, 0]) rfl (ih _ _ _ h kx)
      · have h := ite_f hc16 h
        refine wp_aload_n dX6_widestOf_118 rfl rfl ?_
        refine wp_getR dX6_widestOf_119 flX6_18 rfl (sk30 hS) (sn30 hS) (sr30_3 hS) ?_
        refine wp_iload dX6_widestOf_122 rfl ?_
        refine wp_aload_n dX6_widestOf_124 rfl rfl ?_
        refine wp_getR dX6_widestOf_125 flX6_18 rfl (sk30 hS) (sn30 hS) (sr30_3 hS) ?_
        refine wp_iload dX6_widestOf_128 rfl ?_
        obtain ⟨hb17, h⟩ := ck_inv h
        refine wp_iald dX6_widestOf_130 (sk33 hS) (sn33 hS) hb17 ?_
        refine wp_aload_n dX6_widestOf_131 rfl rfl ?_
        refine wp_getR dX6_widestOf_132 flX6_9 rfl (sk30 hS) (sn30 hS) (sr30_1 hS) ?_
        refine wp_iload dX6_widestOf_135 rfl ?_
        refine wp_iald dX6_widestOf_137 (sk31 hS) (sn31 hS) hb15 ?_
        refine wp_aload_n dX6_widestOf_138 rfl rfl ?_
        refine wp_getR dX6_widestOf_139 flX6_18 rfl (sk30 hS) (sn30 hS) (sr30_3 hS) ?_
        refine wp_iload dX6_widestOf_142 rfl ?_
        refine wp_aload_n dX6_widestOf_144 rfl rfl ?_
        refine wp_getR dX6_widestOf_145 flX6_27 rfl (sk30 hS) (sn30 hS) (sr30_0 hS) ?_
        refine wp_getR dX6_widestOf_148 flX6_37 rfl (sk2 hS) (sn2 hS) (sr2_3 hS) ?_
        refine wp_iload dX6_widestOf_151 rfl ?_
        refine wp_iald dX6_widestOf_153 (sk3 hS) (sn3 hS) hb15 ?_
        refine wp_iadd dX6_widestOf_154 ?_
        obtain ⟨hb18, h⟩ := ck_inv h
        refine wp_iald dX6_widestOf_155 (sk33 hS) (sn33 hS) hb18 ?_
        refine wp_min dX6_widestOf_156 mlX6_68 ma_min1 ma_2 ma_min3 (Nat.le_trans (by decide) hd) (Nat.le_of_ble_eq_true rfl) ?_
        obtain ⟨x19, hx20, h⟩ := nm_inv h
        refine wp_topi hx20 ?_
        refine wp_max dX6_widestOf_159 mlX6_74 ma_max1 ma_2 ma_max3 (Nat.le_trans (by decide) hd) (Nat.le_of_ble_eq_true rfl) ?_
        obtain ⟨x21, hx22, h⟩ := nm_inv h
        refine wp_topi hx22 ?_
        refine wp_iast dX6_widestOf_162 (sk33 hS) (sn33 hS) hb17 ?_
        refine wp_iinc (v := 1) (ls' := [(8, .int (v8 + 1)), (9, .int (k5 + (I 4 v8.toNatClampNeg))), (0, .ref 30), (1, .int k1), (3, .int k3), (4, .int k4), (5, .int k5), (6, .int k6), (7, .int k7)]) dX6_widestOf_163 rfl (by decide) (Nat.le_of_ble_eq_true rfl) rfl ?_
        refine wp_goto (tgt := 82) dX6_widestOf_166 (by decide) ?_
        exact wp_pick (ks := [2, 3, 4, 5, 6, 7, 8, 0]) rfl (ih _ _ _ h kx)
set_option maxHeartbeats 4000000 in
set_option maxRecDepth 100000 in
theorem wX6_widestOf_41 (N : Nat) (d : Nat) (hd : 1 ≤ d) {S : gS} {J : gJ} (hS : Sh S)  (k1 : Int32) (k3 : Int32) (k4 : Int32) {Q : gO → gS → gI → gJ → Prop} :
    ∀ (n : Nat) (v5 : Int32) (v6 : Int32) (I : gI) (res : Int32 × gI), mX6_widestOf_41 N k1 k3 k4 n v5 v6 I = some res → (∀ (o5 : Int32) (O : gI), res = (o5, O) → Wp RX6 cX6_widestOf 10 (some .int) [] hF d 0 0 175 [(0, .ref 30), (3, .int k3), (5, .int o5)] [] S O J Q) → Wp RX6 cX6_widestOf 10 (some .int) [] hF d 0 0 41 [(0, .ref 30), (1, .int k1), (3, .int k3), (4, .int k4), (5, .int v5), (6, .int v6)] [] S I J Q := by
  intro n
  induction n with
  | zero => intro v5 v6 I res h; exact nso h
  | succ n ih =>
    intro v5 v6 I res h kx
    rw [mX6_widestOf_41] at h
    refine wp_iload dX6_widestOf_41 rfl ?_
    refine wp_iload dX6_widestOf_43 rfl ?_
    refine wp_icmp_ge (tgt := 175) dX6_widestOf_45 (by decide) (fun hc6 => ?_) (fun hc6 => ?_)
    · have h := ite_t hc6 h
      exact wp_pick (ks := [0, 2, 4]) rfl (kx _ _ (sji h).symm)
    · have h := ite_f hc6 h
      refine wp_iload dX6_widestOf_48 rfl ?_
      refine wp_bipush (v := 7) dX6_widestOf_50 (by decide) ?_
      refine wp_icmp_ge (tgt := 175) dX6_widestOf_52 (by decide) (fun hc7 => ?_) (fun hc7 => ?_)
      · have h := ite_t hc7 h
        exact wp_pick (ks := [0, 2, 4]) rfl (kx _ _ (sji h).symm)
      · have h := ite_f hc7 h
        refine wp_iload dX6_widestOf_55 rfl ?_
        refine wp_istore (ls' := [(7, .int v5), (0, .ref 30), (1, .int k1), (3, .int k3), (4, .int k4), (5, .int v5), (6, .int v6)]) dX6_widestOf_57 (Nat.le_of_ble_eq_true rfl) rfl ?_
        refine wp_iinc (v := 8) (ls' := [(5, .int (v5 + 8)), (7, .int v5), (0, .ref 30), (1, .int k1), (3, .int k3), (4, .int k4), (6, .int v6)]) dX6_widestOf_59 rfl (by decide) (Nat.le_of_ble_eq_true rfl) rfl ?_
        refine wp_aload_n dX6_widestOf_62 rfl rfl ?_
        refine wp_getR dX6_widestOf_63 flX6_18 rfl (sk30 hS) (sn30 hS) (sr30_3 hS) ?_
        refine wp_iload dX6_widestOf_66 rfl ?_
        refine wp_aload_n dX6_widestOf_68 rfl rfl ?_
        refine wp_getR dX6_widestOf_69 flX6_18 rfl (sk30 hS) (sn30 hS) (sr30_3 hS) ?_
        refine wp_iload dX6_widestOf_72 rfl ?_
        refine wp_bipush (v := 8) dX6_widestOf_74 (by decide) ?_
        obtain ⟨hz8, h⟩ := nn_inv h
        obtain ⟨hz9, h⟩ := nn_inv h
        obtain ⟨hz10, h⟩ := lt9_inv h
        obtain ⟨hz11, h⟩ := lt9_inv h
        refine wp_acopy dX6_widestOf_76 mlX6_47 (sk33 hS) (sn33 hS) (sk33 hS) (sn33 hS) sy_1 sy_2 sy_3 (Nat.le_trans (by decide) hd) hz8 hz9 (by decide) hz10 hz11 (by decide) ?_
        obtain ⟨I12, hx13, h⟩ := nm_inv h
        refine wp_nmI hx13 ?_
        refine wp_iconst (v := 0) dX6_widestOf_79 (by decide) ?_
        refine wp_istore (ls' := [(8, .int 0), (5, .int (v5 + 8)), (7, .int v5), (0, .ref 30), (1, .int k1), (3, .int k3), (4, .int k4), (6, .int v6)]) dX6_widestOf_80 (Nat.le_of_ble_eq_true rfl) rfl ?_
        obtain ⟨I23, hL924, h⟩ := obi h
        refine wp_pick (ks := [3, 4, 5, 6, 1, 7, 2, 0]) rfl (wX6_widestOf_82 d hd hS  k1 k3 k4 (v5 + 8) v6 v5 N 0 I12 _ hL924 (fun _ e25 => ?_))
        cases e25
        refine wp_iinc (v := 1) (ls' := [(6, .int (v6 + 1)), (0, .ref 30), (1, .int k1), (3, .int k3), (4, .int k4), (5, .int (v5 + 8))]) dX6_widestOf_169 rfl (by decide) (Nat.le_of_ble_eq_true rfl) rfl ?_
        refine wp_goto (tgt := 41) dX6_widestOf_172 (by decide) ?_
        exact wp_pick (ks := [1, 2, 3, 4, 5, 0]) rfl (ih _ _ _ _ h kx)
set_option maxHeartbeats 4000000 in
set_option maxRecDepth 100000 in
theorem ct_X6_widestOf (N : Nat) (d : Nat) (hd : 1 ≤ d) {S : gS} {J : gJ} (hS : Sh S)  {a2 : Int32} {a3 : Int32} {a4 : Int32} {a5 : Int32} {I : gI} {r : Int32 × gI} (h : mX6_widestOf N a2 a3 a4 a5 I = some r) : Ct yX6_widestOf (wsY yX6_widestOf cX6_widestOf 10 (some .int)) d 0 0 [.ref 30, .int a2, .int a3, .int a4, .int a5] S I J (qE (.inl (some (.int r.1))) S r.2 J) := by
  refine Ct.of hF (fun _ _ _ _ _ => trivial) (by decide +kernel) (Nat.le_of_ble_eq_true rfl) ⟨Or.inl (sn30 hS), trivial, trivial, trivial, trivial, trivial⟩ ?_
  show Wp RX6 cX6_widestOf 10 (some .int) [] hF d 0 0 0 [(0, .ref 30), (1, .int a2), (2, .int a3), (3, .int a4), (4, .int a5)] [] S I J _
  unfold mX6_widestOf at h
  refine wp_iconst (v := 0) dX6_widestOf_0 (by decide) ?_
  refine wp_istore (ls' := [(5, .int 0), (0, .ref 30), (1, .int a2), (2, .int a3), (3, .int a4), (4, .int a5)]) dX6_widestOf_1 (Nat.le_of_ble_eq_true rfl) rfl ?_
  obtain ⟨I5, hL931, h⟩ := obi h
  refine wp_pick (ks := [1, 2, 3, 4, 5, 0]) rfl (wX6_widestOf_3 d hd hS  a2 a3 a4 a5 N 0 I _ hL931 (fun _ e32 => ?_))
  cases e32
  refine wp_iconst (v := 0) dX6_widestOf_35 (by decide) ?_
  refine wp_istore (ls' := [(5, .int 0), (0, .ref 30), (1, .int a2), (3, .int a4), (4, .int a5)]) dX6_widestOf_36 (Nat.le_of_ble_eq_true rfl) rfl ?_
  refine wp_iconst (v := 0) dX6_widestOf_38 (by decide) ?_
  refine wp_istore (ls' := [(6, .int 0), (5, .int 0), (0, .ref 30), (1, .int a2), (3, .int a4), (4, .int a5)]) dX6_widestOf_39 (Nat.le_of_ble_eq_true rfl) rfl ?_
  obtain ⟨⟨y26, I27⟩, hL929, h⟩ := obi h
  refine wp_pick (ks := [2, 3, 4, 5, 1, 0]) rfl (wX6_widestOf_41 N d hd hS  a2 a4 a5 N 0 0 I5 _ hL929 (fun _ _ e30 => ?_))
  cases e30
  refine wp_aload_n dX6_widestOf_175 rfl rfl ?_
  refine wp_getR dX6_widestOf_176 flX6_18 rfl (sk30 hS) (sn30 hS) (sr30_3 hS) ?_
  refine wp_iload dX6_widestOf_179 rfl ?_
  refine wp_iload_n dX6_widestOf_181 rfl rfl ?_
  refine wp_iadd dX6_widestOf_182 ?_
  obtain ⟨hb28, h⟩ := ck_inv h
  refine wp_iald dX6_widestOf_183 (sk33 hS) (sn33 hS) hb28 ?_
  exact wp_iret dX6_widestOf_184 rfl (by obtain rfl := sji h; exact ⟨rfl, rfl, rfl, rfl⟩)
def mX6_findMore_27 (k1 : Int32) (k3 : Int32) (k5 : Int32) : Nat → Int32 → Int32 → gI → Option (Int32 × gI)
  | 0, _, _, _ => none
  | n + 1, v4, v6, I => if (I 2 1) ≤ v6 then (some (v4, I)) else (ck v6 16 (Option.bind (if ((ushr v4 (I 3 v6.toNatClampNeg)) &&& 1) = 0 then (some 0) else (some 1) : Option (Int32)) (fun x5 => Option.bind (if ((ushr v4 (I 4 v6.toNatClampNeg)) &&& 1) = 0 then (some 0) else (some 1) : Option (Int32)) (fun x7 => Option.bind (if ((ushr k1 v6) &&& 1) = 0 then (some 0) else (if (I 31 v6.toNatClampNeg) ≤ (I 34 v6.toNatClampNeg) then (some 0) else (some 1)) : Option (Int32)) (fun x9 => if x5 = 0 then (if x7 = 0 then (mX6_findMore_27 k1 k3 k5 n v4 (v6 + 1) I) else (if x5 = 0 then (if (I 34 v6.toNatClampNeg) ≤ 0 then (mX6_findMore_27 k1 k3 k5 n v4 (v6 + 1) I) else (ck (I 3 v6.toNatClampNeg) 8 (nm ((upd2 I 35 (I 3 v6.toNatClampNeg).toNatClampNeg (v6 - 16)) 3 v6.toNatClampNeg) (fun x17 => mX6_findMore_27 k1 k3 k5 n (v4 ||| ((1 : Int32) <<< (x17 &&& 31))) (v6 + 1) (upd2 I 35 (I 3 v6.toNatClampNeg).toNatClampNeg (v6 - 16)))))) else (mX6_findMore_27 k1 k3 k5 n v4 (v6 + 1) I))) else (if x7 = 0 then (if x9 = 0 then (if x7 = 0 then (mX6_findMore_27 k1 k3 k5 n v4 (v6 + 1) I) else (if x5 = 0 then (if (I 34 v6.toNatClampNeg) ≤ 0 then (mX6_findMore_27 k1 k3 k5 n v4 (v6 + 1) I) else (ck (I 3 v6.toNatClampNeg) 8 (nm ((upd2 I 35 (I 3 v6.toNatClampNeg).toNatClampNeg (v6 - 16)) 3 v6.toNatClampNeg) (fun x31 => mX6_findMore_27 k1 k3 k5 n (v4 ||| ((1 : Int32) <<< (x31 &&& 31))) (v6 + 1) (upd2 I 35 (I 3 v6.toNatClampNeg).toNatClampNeg (v6 - 16)))))) else (mX6_findMore_27 k1 k3 k5 n v4 (v6 + 1) I))) else (ck (I 4 v6.toNatClampNeg) 8 (nm ((upd2 I 35 (I 4 v6.toNatClampNeg).toNatClampNeg v6) 4 v6.toNatClampNeg) (fun x34 => mX6_findMore_27 k1 k3 k5 n (v4 ||| ((1 : Int32) <<< (x34 &&& 31))) (v6 + 1) (upd2 I 35 (I 4 v6.toNatClampNeg).toNatClampNeg v6))))) else (if x7 = 0 then (mX6_findMore_27 k1 k3 k5 n v4 (v6 + 1) I) else (if x5 = 0 then (if (I 34 v6.toNatClampNeg) ≤ 0 then (mX6_findMore_27 k1 k3 k5 n v4 (v6 + 1) I) else (ck (I 3 v6.toNatClampNeg) 8 (nm ((upd2 I 35 (I 3 v6.toNatClampNeg).toNatClampNeg (v6 - 16)) 3 v6.toNatClampNeg) (fun x24 => mX6_findMore_27 k1 k3 k5 n (v4 ||| ((1 : Int32) <<< (x24 &&& 31))) (v6 + 1) (upd2 I 35 (I 3 v6.toNatClampNeg).toNatClampNeg (v6 - 16)))))) else (mX6_findMore_27 k1 k3 k5 n v4 (v6 + 1) I)))))))))
def mX6_findMore_8 (N : Nat) (k1 : Int32) (k3 : Int32) : Nat → Int32 → Int32 → gI → Option (Int32 × gI)
  | 0, _, _, _ => none
  | n + 1, v4, v5, I => if 8 ≤ v5 then (some (v4, I)) else (if ((ushr v4 k3) &&& 1) = 0 then (Option.bind (mX6_findMore_27 k1 k3 v5 N v4 0 I) (fun (y39, I40) => mX6_findMore_8 N k1 k3 n y39 (v5 + 1) I40)) else (some (v4, I)))
def mX6_findMore (N : Nat) (a2 : Int32) (a3 : Int32) (a4 : Int32) (I : gI) : Option (Int32 × gI) := Option.bind (mX6_findMore_8 N a2 a4 N ((1 : Int32) <<< (a3 &&& 31)) 0 I) (fun (y43, I44) => if ((ushr y43 a4) &&& 1) = 0 then (some (0, I44)) else (some (1, I44)))
set_option maxHeartbeats 4000000 in
set_option maxRecDepth 100000 in
theorem wX6_findMore_27 (d : Nat) (hd : 0 ≤ d) {S : gS} {J : gJ} (hS : Sh S)  (k1 : Int32) (k3 : Int32) (k5 : Int32) {Q : gO → gS → gI → gJ → Prop} :
    ∀ (n : Nat) (v4 : Int32) (v6 : Int32) (I : gI) (res : Int32 × gI), mX6_findMore_27 k1 k3 k5 n v4 v6 I = some res → (∀ (o4 : Int32) (O : gI), res = (o4, O) → Wp RX6 cX6_findMore 10 (some .boolean) [] hF d 0 0 237 [(0, .ref 30), (1, .int k1), (3, .int k3), (4, .int o4), (5, .int k5)] [] S O J Q) → Wp RX6 cX6_findMore 10 (some .boolean) [] hF d 0 0 27 [(0, .ref 30), (1, .int k1), (3, .int k3), (4, .int v4), (5, .int k5), (6, .int v6)] [] S I J Q := by
  intro n
  induction n with
  | zero => intro v4 v6 I res h; exact nso h
  | succ n ih =>
    intro v4 v6 I res h kx
    rw [mX6_findMore_27] at h
    refine wp_iload dX6_findMore_27 rfl ?_
    refine wp_aload_n dX6_findMore_29 rfl rfl ?_
    refine wp_getR dX6_findMore_30 flX6_27 rfl (sk30 hS) (sn30 hS) (sr30_0 hS) ?_
    refine wp_getI dX6_findMore_33 flX6_31 rfl (sk2 hS) (sn2 hS) ?_
    refine wp_icmp_ge (tgt := 237) dX6_findMore_36 (by decide) (fun hc3 => ?_) (fun hc3 => ?_)
    · have h := ite_t hc3 h
      exact wp_pick (ks := [0, 1, 2, 3, 4]) rfl (kx _ _ (sji h).symm)
    · have h := ite_f hc3 h
      refine wp_iload dX6_findMore_39 rfl ?_
      refine wp_aload_n dX6_findMore_41 rfl rfl ?_
      refine wp_getR dX6_findMore_42 flX6_27 rfl (sk30 hS) (sn30 hS) (sr30_0 hS) ?_
      refine wp_getR dX6_findMore_45 flX6_37 rfl (sk2 hS) (sn2 hS) (sr2_3 hS) ?_
      refine wp_iload dX6_findMore_48 rfl ?_
      obtain ⟨hb4, h⟩ := ck_inv h
      refine wp_iald dX6_findMore_50 (sk3 hS) (sn3 hS) hb4 ?_
      refine wp_iushr dX6_findMore_51 ?_
      refine wp_iconst (v := 1) dX6_findMore_52 (by decide) ?_
      refine wp_iand dX6_findMore_53 ?_
      obtain ⟨x5, hh38, h⟩ := obi h
      have hJ : Wp RX6 cX6_findMore 10 (some .boolean) [] hF d 0 0 62 [(0, .ref 30), (1, .int k1), (3, .int k3), (4, .int v4), (5, .int k5), (6, .int v6)] [.int x5] S I J Q := by
        refine wp_istore (ls' := [(7, .int x5), (0, .ref 30), (1, .int k1), (3, .int k3), (4, .int v4), (5, .int k5), (6, .int v6)]) dX6_findMore_62 (Nat.le_of_ble_eq_true rfl) rfl ?_
        refine wp_iload dX6_findMore_64 rfl ?_
        refine wp_aload_n dX6_findMore_66 rfl rfl ?_
        refine wp_getR dX6_findMore_67 flX6_27 rfl (sk30 hS) (sn30 hS) (sr30_0 hS) ?_
        refine wp_getR dX6_findMore_70 flX6_40 rfl (sk2 hS) (sn2 hS) (sr2_4 hS) ?_
        refine wp_iload dX6_findMore_73 rfl ?_
        refine wp_iald dX6_findMore_75 (sk4 hS) (sn4 hS) hb4 ?_
        refine wp_iushr dX6_findMore_76 ?_
        refine wp_iconst (v := 1) dX6_findMore_77 (by decide) ?_
        refine wp_iand dX6_findMore_78 ?_
        obtain ⟨x7, hh37, h⟩ := obi h
        have hJ : Wp RX6 cX6_findMore 10 (some .boolean) [] hF d 0 0 87 [(0, .ref 30), (1, .int k1), (3, .int k3), (4, .int v4), (5, .int k5), (6, .int v6), (7, .int x5)] [.int x7] S I J Q := by
          refine wp_istore (ls' := [(8, .int x7), (0, .ref 30), (1, .int k1), (3, .int k3), (4, .int v4), (5, .int k5), (6, .int v6), (7, .int x5)]) dX6_findMore_87 (Nat.le_of_ble_eq_true rfl) rfl ?_
          refine wp_iload_n dX6_findMore_89 rfl rfl ?_
          refine wp_iload dX6_findMore_90 rfl ?_
          refine wp_iushr dX6_findMore_92 ?_
          refine wp_iconst (v := 1) dX6_findMore_93 (by decide) ?_
          refine wp_iand dX6_findMore_94 ?_
          obtain ⟨x9, hh36, h⟩ := obi h
          have hJ : Wp RX6 cX6_findMore 10 (some .boolean) [] hF d 0 0 120 [(0, .ref 30), (1, .int k1), (3, .int k3), (4, .int v4), (5, .int k5), (6, .int v6), (7, .int x5), (8, .int x7)] [.int x9] S I J Q := by
            refine wp_istore (ls' := [(9, .int x9), (0, .ref 30), (1, .int k1), (3, .int k3), (4, .int v4), (5, .int k5), (6, .int v6), (7, .int x5), (8, .int x7)]) dX6_findMore_120 (Nat.le_of_ble_eq_true rfl) rfl ?_
            refine wp_iload dX6_findMore_122 rfl ?_
            refine wp_if_eq (tgt := 174) dX6_findMore_124 (by decide) (fun hc12 => ?_) (fun hc12 => ?_)
            · have h := ite_t hc12 h
              refine wp_iload dX6_findMore_174 rfl ?_
              refine wp_if_eq (tgt := 231) dX6_findMore_176 (by decide) (fun hc13 => ?_) (fun hc13 => ?_)
              · have h := ite_t hc13 h
                refine wp_iinc (v := 1) (ls' := [(6, .int (v6 + 1)), (9, .int x9), (0, .ref 30), (1, .int k1), (3, .int k3), (4, .int v4), (5, .int k5), (7, .int x5), (8, .int x7)]) dX6_findMore_231 rfl (by decide) (Nat.le_of_ble_eq_true rfl) rfl ?_
                refine wp_goto (tgt := 27) dX6_findMore_234 (by decide) ?_
                exact wp_pick (ks := [2, 3, 4, 5, 6, 0]) rfl (ih _ _ _ _ h kx)
              · have h := ite_f hc13 h
                refine wp_iload dX6_findMore_179 rfl ?_
                refine wp_if_ne (tgt := 231) dX6_findMore_181 (by decide) (fun hc14 => ?_) (fun hc14 => ?_)
                · have h := ite_f hc14 h
                  refine wp_iinc (v := 1) (ls' := [(6, .int (v6 + 1)), (9, .int x9), (0, .ref 30), (1, .int k1), (3, .int k3), (4, .int v4), (5, .int k5), (7, .int x5), (8, .int x7)]) dX6_findMore_231 rfl (by decide) (Nat.le_of_ble_eq_true rfl) rfl ?_
                  refine wp_goto (tgt := 27) dX6_findMore_234 (by decide) ?_
                  exact wp_pick (ks := [2, 3, 4, 5, 6, 0]) rfl (ih _ _ _ _ h kx)
                · have h := ite_t hc14 h
                  refine wp_aload_n dX6_findMore_184 rfl rfl ?_
                  refine wp_getR dX6_findMore_185 flX6_21 rfl (sk30 hS) (sn30 hS) (sr30_4 hS) ?_
                  refine wp_iload dX6_findMore_188 rfl ?_
                  refine wp_iald dX6_findMore_190 (sk34 hS) (sn34 hS) hb4 ?_
                  refine wp_if_le (tgt := 231) dX6_findMore_191 (by decide) (fun hc15 => ?_) (fun hc15 => ?_)
                  · have h := ite_t hc15 h
                    refine wp_iinc (v := 1) (ls' := [(6, .int (v6 + 1)), (9, .int x9), (0, .ref 30), (1, .int k1), (3, .int k3), (4, .int v4), (5, .int k5), (7, .int x5), (8, .int x7)]) dX6_findMore_231 rfl (by decide) (Nat.le_of_ble_eq_true rfl) rfl ?_
                    refine wp_goto (tgt := 27) dX6_findMore_234 (by decide) ?_
                    exact wp_pick (ks := [2, 3, 4, 5, 6, 0]) rfl (ih _ _ _ _ h kx)
                  · have h := ite_f hc15 h
                    refine wp_aload_n dX6_findMore_194 rfl rfl ?_
                    refine wp_getR dX6_findMore_195 flX6_24 rfl (sk30 hS) (sn30 hS) (sr30_5 hS) ?_
                    refine wp_aload_n dX6_findMore_198 rfl rfl ?_
                    refine wp_getR dX6_findMore_199 flX6_27 rfl (sk30 hS) (sn30 hS) (sr30_0 hS) ?_
                    refine wp_getR dX6_findMore_202 flX6_37 rfl (sk2 hS) (sn2 hS) (sr2_3 hS) ?_
                    refine wp_iload dX6_findMore_205 rfl ?_
                    refine wp_iald dX6_findMore_207 (sk3 hS) (sn3 hS) hb4 ?_
                    refine wp_iload dX6_findMore_208 rfl ?_
                    refine wp_bipush (v := 16) dX6_findMore_210 (by decide) ?_
                    refine wp_isub dX6_findMore_212 ?_
                    obtain ⟨hb16, h⟩ := ck_inv h
                    refine wp_iast dX6_findMore_213 (sk35 hS) (sn35 hS) hb16 ?_
                    refine wp_iload dX6_findMore_214 rfl ?_
                    refine wp_iconst (v := 1) dX6_findMore_216 (by decide) ?_
                    refine wp_aload_n dX6_findMore_217 rfl rfl ?_
                    refine wp_getR dX6_findMore_218 flX6_27 rfl (sk30 hS) (sn30 hS) (sr30_0 hS) ?_
                    refine wp_getR dX6_findMore_221 flX6_37 rfl (sk2 hS) (sn2 hS) (sr2_3 hS) ?_
                    refine wp_iload dX6_findMore_224 rfl ?_
                    refine wp_iald dX6_findMore_226 (sk3 hS) (sn3 hS) hb4 ?_
                    obtain ⟨x17, hx18, h⟩ := nm_inv h
                    refine wp_topi hx18 ?_
                    refine wp_ishl dX6_findMore_227 ?_
                    refine wp_ior dX6_findMore_228 ?_
                    refine wp_istore (ls' := [(4, .int (v4 ||| ((1 : Int32) <<< (x17 &&& 31)))), (9, .int x9), (0, .ref 30), (1, .int k1), (3, .int k3), (5, .int k5), (6, .int v6), (7, .int x5), (8, .int x7)]) dX6_findMore_229 (Nat.le_of_ble_eq_true rfl) rfl ?_
                    refine wp_iinc (v := 1) (ls' := [(6, .int (v6 + 1)), (4, .int (v4 ||| ((1 : Int32) <<< (x17 &&& 31)))), (9, .int x9), (0, .ref 30), (1, .int k1), (3, .int k3), (5, .int k5), (7, .int x5), (8, .int x7)]) dX6_findMore_231 rfl (by decide) (Nat.le_of_ble_eq_true rfl) rfl ?_
                    refine wp_goto (tgt := 27) dX6_findMore_234 (by decide) ?_
                    exact wp_pick (ks := [3, 4, 5, 1, 6, 0]) rfl (ih _ _ _ _ h kx)
            · have h := ite_f hc12 h
              refine wp_iload dX6_findMore_127 rfl ?_
              refine wp_if_ne (tgt := 174) dX6_findMore_129 (by decide) (fun hc19 => ?_) (fun hc19 => ?_)
              · have h := ite_f hc19 h
                refine wp_iload dX6_findMore_174 rfl ?_
                refine wp_if_eq (tgt := 231) dX6_findMore_176 (by decide) (fun hc20 => ?_) (fun hc20 => ?_)
                · have h := ite_t hc20 h
                  refine wp_iinc (v := 1) (ls' := [(6, .int (v6 + 1)), (9, .int x9), (0, .ref 30), (1, .int k1), (3, .int k3), (4, .int v4), (5, .int k5), (7, .int x5), (8, .int x7)]) dX6_findMore_231 rfl (by decide) (Nat.le_of_ble_eq_true rfl) rfl ?_
                  refine wp_goto (tgt := 27) dX6_findMore_234 (by decide) ?_
                  exact wp_pick (ks := [2, 3, 4, 5, 6, 0]) rfl (ih _ _ _ _ h kx)
                · have h := ite_f hc20 h
                  refine wp_iload dX6_findMore_179 rfl ?_
                  refine wp_if_ne (tgt := 231) dX6_findMore_181 (by decide) (fun hc21 => ?_) (fun hc21 => ?_)
                  · have h := ite_f hc21 h
                    refine wp_iinc (v := 1) (ls' := [(6, .int (v6 + 1)), (9, .int x9), (0, .ref 30), (1, .int k1), (3, .int k3), (4, .int v4), (5, .int k5), (7, .int x5), (8, .int x7)]) dX6_findMore_231 rfl (by decide) (Nat.le_of_ble_eq_true rfl) rfl ?_
                    refine wp_goto (tgt := 27) dX6_findMore_234 (by decide) ?_
                    exact wp_pick (ks := [2, 3, 4, 5, 6, 0]) rfl (ih _ _ _ _ h kx)
                  · have h := ite_t hc21 h
                    refine wp_aload_n dX6_findMore_184 rfl rfl ?_
                    refine wp_getR dX6_findMore_185 flX6_21 rfl (sk30 hS) (sn30 hS) (sr30_4 hS) ?_
                    refine wp_iload dX6_findMore_188 rfl ?_
                    refine wp_iald dX6_findMore_190 (sk34 hS) (sn34 hS) hb4 ?_
                    refine wp_if_le (tgt := 231) dX6_findMore_191 (by decide) (fun hc22 => ?_) (fun hc22 => ?_)
                    · have h := ite_t hc22 h
                      refine wp_iinc (v := 1) (ls' := [(6, .int (v6 + 1)), (9, .int x9), (0, .ref 30), (1, .int k1), (3, .int k3), (4, .int v4), (5, .int k5), (7, .int x5), (8, .int x7)]) dX6_findMore_231 rfl (by decide) (Nat.le_of_ble_eq_true rfl) rfl ?_
                      refine wp_goto (tgt := 27) dX6_findMore_234 (by decide) ?_
                      exact wp_pick (ks := [2, 3, 4, 5, 6, 0]) rfl (ih _ _ _ _ h kx)
                    · have h := ite_f hc22 h
                      refine wp_aload_n dX6_findMore_194 rfl rfl ?_
                      refine wp_getR dX6_findMore_195 flX6_24 rfl (sk30 hS) (sn30 hS) (sr30_5 hS) ?_
                      refine wp_aload_n dX6_findMore_198 rfl rfl ?_
                      refine wp_getR dX6_findMore_199 flX6_27 rfl (sk30 hS) (sn30 hS) (sr30_0 hS) ?_
                      refine wp_getR dX6_findMore_202 flX6_37 rfl (sk2 hS) (sn2 hS) (sr2_3 hS) ?_
                      refine wp_iload dX6_findMore_205 rfl ?_
                      refine wp_iald dX6_findMore_207 (sk3 hS) (sn3 hS) hb4 ?_
                      refine wp_iload dX6_findMore_208 rfl ?_
                      refine wp_bipush (v := 16) dX6_findMore_210 (by decide) ?_
                      refine wp_isub dX6_findMore_212 ?_
                      obtain ⟨hb23, h⟩ := ck_inv h
                      refine wp_iast dX6_findMore_213 (sk35 hS) (sn35 hS) hb23 ?_
                      refine wp_iload dX6_findMore_214 rfl ?_
                      refine wp_iconst (v := 1) dX6_findMore_216 (by decide) ?_
                      refine wp_aload_n dX6_findMore_217 rfl rfl ?_
                      refine wp_getR dX6_findMore_218 flX6_27 rfl (sk30 hS) (sn30 hS) (sr30_0 hS) ?_
                      refine wp_getR dX6_findMore_221 flX6_37 rfl (sk2 hS) (sn2 hS) (sr2_3 hS) ?_
                      refine wp_iload dX6_findMore_224 rfl ?_
                      refine wp_iald dX6_findMore_226 (sk3 hS) (sn3 hS) hb4 ?_
                      obtain ⟨x24, hx25, h⟩ := nm_inv h
                      refine wp_topi hx25 ?_
                      refine wp_ishl dX6_findMore_227 ?_
                      refine wp_ior dX6_findMore_228 ?_
                      refine wp_istore (ls' := [(4, .int (v4 ||| ((1 : Int32) <<< (x24 &&& 31)))), (9, .int x9), (0, .ref 30), (1, .int k1), (3, .int k3), (5, .int k5), (6, .int v6), (7, .int x5), (8, .int x7)]) dX6_findMore_229 (Nat.le_of_ble_eq_true rfl) rfl ?_
                      refine wp_iinc (v := 1) (ls' := [(6, .int (v6 + 1)), (4, .int (v4 ||| ((1 : Int32) <<< (x24 &&& 31)))), (9, .int x9), (0, .ref 30), (1, .int k1), (3, .int k3), (5, .int k5), (7, .int x5), (8, .int x7)]) dX6_findMore_231 rfl (by decide) (Nat.le_of_ble_eq_true rfl) rfl ?_
                      refine wp_goto (tgt := 27) dX6_findMore_234 (by decide) ?_
                      exact wp_pick (ks := [3, 4, 5, 1, 6, 0]) rfl (ih _ _ _ _ h kx)
              · have h := ite_t hc19 h
                refine wp_iload dX6_findMore_132 rfl ?_
                refine wp_if_eq (tgt := 174) dX6_findMore_134 (by decide) (fun hc26 => ?_) (fun hc26 => ?_)
                · have h := ite_t hc26 h
                  refine wp_iload dX6_findMore_174 rfl ?_
                  refine wp_if_eq (tgt := 231) dX6_findMore_176 (by decide) (fun hc27 => ?_) (fun hc27 => ?_)
                  · have h := ite_t hc27 h
                    refine wp_iinc (v := 1) (ls' := [(6, .int (v6 + 1)), (9, .int x9), (0, .ref 30), (1, .int k1), (3, .int k3), (4, .int v4), (5, .int k5), (7, .int x5), (8, .int x7)]) dX6_findMore_231 rfl (by decide) (Nat.le_of_ble_eq_true rfl) rfl ?_
                    refine wp_goto (tgt := 27) dX6_findMore_234 (by decide) ?_
                    exact wp_pick (ks := [2, 3, 4, 5, 6, 0]) rfl (ih _ _ _ _ h kx)
                  · have h := ite_f hc27 h
                    refine wp_iload dX6_findMore_179 rfl ?_
                    refine wp_if_ne (tgt := 231) dX6_findMore_181 (by decide) (fun hc28 => ?_) (fun hc28 => ?_)
                    · have h := ite_f hc28 h
                      refine wp_iinc (v := 1) (ls' := [(6, .int (v6 + 1)), (9, .int x9), (0, .ref 30), (1, .int k1), (3, .int k3), (4, .int v4), (5, .int k5), (7, .int x5), (8, .int x7)]) dX6_findMore_231 rfl (by decide) (Nat.le_of_ble_eq_true rfl) rfl ?_
                      refine wp_goto (tgt := 27) dX6_findMore_234 (by decide) ?_
                      exact wp_pick (ks := [2, 3, 4, 5, 6, 0]) rfl (ih _ _ _ _ h kx)
                    · have h := ite_t hc28 h
                      refine wp_aload_n dX6_findMore_184 rfl rfl ?_
                      refine wp_getR dX6_findMore_185 flX6_21 rfl (sk30 hS) (sn30 hS) (sr30_4 hS) ?_
                      refine wp_iload dX6_findMore_188 rfl ?_
                      refine wp_iald dX6_findMore_190 (sk34 hS) (sn34 hS) hb4 ?_
                      refine wp_if_le (tgt := 231) dX6_findMore_191 (by decide) (fun hc29 => ?_) (fun hc29 => ?_)
                      · have h := ite_t hc29 h
                        refine wp_iinc (v := 1) (ls' := [(6, .int (v6 + 1)), (9, .int x9), (0, .ref 30), (1, .int k1), (3, .int k3), (4, .int v4), (5, .int k5), (7, .int x5), (8, .int x7)]) dX6_findMore_231 rfl (by decide) (Nat.le_of_ble_eq_true rfl) rfl ?_
                        refine wp_goto (tgt := 27) dX6_findMore_234 (by decide) ?_
                        exact wp_pick (ks := [2, 3, 4, 5, 6, 0]) rfl (ih _ _ _ _ h kx)
                      · have h := ite_f hc29 h
                        refine wp_aload_n dX6_findMore_194 rfl rfl ?_
                        refine wp_getR dX6_findMore_195 flX6_24 rfl (sk30 hS) (sn30 hS) (sr30_5 hS) ?_
                        refine wp_aload_n dX6_findMore_198 rfl rfl ?_
                        refine wp_getR dX6_findMore_199 flX6_27 rfl (sk30 hS) (sn30 hS) (sr30_0 hS) ?_
                        refine wp_getR dX6_findMore_202 flX6_37 rfl (sk2 hS) (sn2 hS) (sr2_3 hS) ?_
                        refine wp_iload dX6_findMore_205 rfl ?_
                        refine wp_iald dX6_findMore_207 (sk3 hS) (sn3 hS) hb4 ?_
                        refine wp_iload dX6_findMore_208 rfl ?_
                        refine wp_bipush (v := 16) dX6_findMore_210 (by decide) ?_
                        refine wp_isub dX6_findMore_212 ?_
                        obtain ⟨hb30, h⟩ := ck_inv h
                        refine wp_iast dX6_findMore_213 (sk35 hS) (sn35 hS) hb30 ?_
                        refine wp_iload dX6_findMore_214 rfl ?_
                        refine wp_iconst (v := 1) dX6_findMore_216 (by decide) ?_
                        refine wp_aload_n dX6_findMore_217 rfl rfl ?_
                        refine wp_getR dX6_findMore_218 flX6_27 rfl (sk30 hS) (sn30 hS) (sr30_0 hS) ?_
                        refine wp_getR dX6_findMore_221 flX6_37 rfl (sk2 hS) (sn2 hS) (sr2_3 hS) ?_
                        refine wp_iload dX6_findMore_224 rfl ?_
                        refine wp_iald dX6_findMore_226 (sk3 hS) (sn3 hS) hb4 ?_
                        obtain ⟨x31, hx32, h⟩ := nm_inv h
                        refine wp_topi hx32 ?_
                        refine wp_ishl dX6_findMore_227 ?_
                        refine wp_ior dX6_findMore_228 ?_
                        refine wp_istore (ls' := [(4, .int (v4 ||| ((1 : Int32) <<< (x31 &&& 31)))), (9, .int x9), (0, .ref 30), (1, .int k1), (3, .int k3), (5, .int k5), (6, .int v6), (7, .int x5), (8, .int x7)]) dX6_findMore_229 (Nat.le_of_ble_eq_true rfl) rfl ?_
                        refine wp_iinc (v := 1) (ls' := [(6, .int (v6 + 1)), (4, .int (v4 ||| ((1 : Int32) <<< (x31 &&& 31)))), (9, .int x9), (0, .ref 30), (1, .int k1), (3, .int k3), (5, .int k5), (7, .int x5), (8, .int x7)]) dX6_findMore_231 rfl (by decide) (Nat.le_of_ble_eq_true rfl) rfl ?_
                        refine wp_goto (tgt := 27) dX6_findMore_234 (by decide) ?_
                        exact wp_pick (ks := [3, 4, 5, 1, 6, 0]) rfl (ih _ _ _ _ h kx)
                · have h := ite_f hc26 h
                  refine wp_aload_n dX6_findMore_137 rfl rfl ?_
                  refine wp_getR dX6_findMore_138 flX6_24 rfl (sk30 hS) (sn30 hS) (sr30_5 hS) ?_
                  refine wp_aload_n dX6_findMore_141 rfl rfl ?_
                  refine wp_getR dX6_findMore_142 flX6_27 rfl (sk30 hS) (sn30 hS) (sr30_0 hS) ?_
                  refine wp_getR dX6_findMore_145 flX6_40 rfl (sk2 hS) (sn2 hS) (sr2_4 hS) ?_
                  refine wp_iload dX6_findMore_148 rfl ?_
                  refine wp_iald dX6_findMore_150 (sk4 hS) (sn4 hS) hb4 ?_
                  refine wp_iload dX6_findMore_151 rfl ?_
                  obtain ⟨hb33, h⟩ := ck_inv h
                  refine wp_iast dX6_findMore_153 (sk35 hS) (sn35 hS) hb33 ?_
                  refine wp_iload dX6_findMore_154 rfl ?_
                  refine wp_iconst (v := 1) dX6_findMore_156 (by decide) ?_
                  refine wp_aload_n dX6_findMore_157 rfl rfl ?_
                  refine wp_getR dX6_findMore_158 flX6_27 rfl (sk30 hS) (sn30 hS) (sr30_0 hS) ?_
                  refine wp_getR dX6_findMore_161 flX6_40 rfl (sk2 hS) (sn2 hS) (sr2_4 hS) ?_
                  refine wp_iload dX6_findMore_164 rfl ?_
                  refine wp_iald dX6_findMore_166 (sk4 hS) (sn4 hS) hb4 ?_
                  obtain ⟨x34, hx35, h⟩ := nm_inv h
                  refine wp_topi hx35 ?_
                  refine wp_ishl dX6_findMore_167 ?_
                  refine wp_ior dX6_findMore_168 ?_
                  refine wp_istore (ls' := [(4, .int (v4 ||| ((1 : Int32) <<< (x34 &&& 31)))), (9, .int x9), (0, .ref 30), (1, .int k1), (3, .int k3), (5, .int k5), (6, .int v6), (7, .int x5), (8, .int x7)]) dX6_findMore_169 (Nat.le_of_ble_eq_true rfl) rfl ?_
                  refine wp_goto (tgt := 231) dX6_findMore_171 (by decide) ?_
                  refine wp_iinc (v := 1) (ls' := [(6, .int (v6 + 1)), (4, .int (v4 ||| ((1 : Int32) <<< (x34 &&& 31)))), (9, .int x9), (0, .ref 30), (1, .int k1), (3, .int k3), (5, .int k5), (7, .int x5), (8, .int x7)]) dX6_findMore_231 rfl (by decide) (Nat.le_of_ble_eq_true rfl) rfl ?_
                  refine wp_goto (tgt := 27) dX6_findMore_234 (by decide) ?_
                  exact wp_pick (ks := [3, 4, 5, 1, 6, 0]) rfl (ih _ _ _ _ h kx)
          clear h
          have h := hh36
          clear hh36
          refine wp_if_eq (tgt := 119) dX6_findMore_95 (by decide) (fun hc10 => ?_) (fun hc10 => ?_)
          · have h := ite_t hc10 h
            refine wp_iconst (v := 0) dX6_findMore_119 (by decide) ?_
            cases h
            exact wp_pick (ks := [1, 2, 3, 4, 5, 6, 7, 0]) rfl hJ
          · have h := ite_f hc10 h
            refine wp_aload_n dX6_findMore_98 rfl rfl ?_
            refine wp_getR dX6_findMore_99 flX6_21 rfl (sk30 hS) (sn30 hS) (sr30_4 hS) ?_
            refine wp_iload dX6_findMore_102 rfl ?_
            refine wp_iald dX6_findMore_104 (sk34 hS) (sn34 hS) hb4 ?_
            refine wp_aload_n dX6_findMore_105 rfl rfl ?_
            refine wp_getR dX6_findMore_106 flX6_9 rfl (sk30 hS) (sn30 hS) (sr30_1 hS) ?_
            refine wp_iload dX6_findMore_109 rfl ?_
            refine wp_iald dX6_findMore_111 (sk31 hS) (sn31 hS) hb4 ?_
            refine wp_icmp_ge (tgt := 119) dX6_findMore_112 (by decide) (fun hc11 => ?_) (fun hc11 => ?_)
            · have h := ite_t hc11 h
              refine wp_iconst (v := 0) dX6_findMore_119 (by decide) ?_
              cases h
              exact wp_pick (ks := [1, 2, 3, 4, 5, 6, 7, 0]) rfl hJ
            · have h := ite_f hc11 h
              refine wp_iconst (v := 1) dX6_findMore_115 (by decide) ?_
              refine wp_goto (tgt := 120) dX6_findMore_116 (by decide) ?_
              cases h
              exact wp_pick (ks := [1, 2, 3, 4, 5, 6, 7, 0]) rfl hJ
        clear h
        have h := hh37
        clear hh37
        refine wp_if_eq (tgt := 86) dX6_findMore_79 (by decide) (fun hc8 => ?_) (fun hc8 => ?_)
        · have h := ite_t hc8 h
          refine wp_iconst (v := 0) dX6_findMore_86 (by decide) ?_
          cases h
          exact wp_pick (ks := [1, 2, 3, 4, 5, 6, 0]) rfl hJ
        · have h := ite_f hc8 h
          refine wp_iconst (v := 1) dX6_findMore_82 (by decide) ?_
          refine wp_goto (tgt := 87) dX6_findMore_83 (by decide) ?_
          cases h
          exact wp_pick (ks := [1, 2, 3, 4, 5, 6, 0]) rfl hJ
      clear h
      have h := hh38
      clear hh38
      refine wp_if_eq (tgt := 61) dX6_findMore_54 (by decide) (fun hc6 => ?_) (fun hc6 => ?_)
      · have h := ite_t hc6 h
        refine wp_iconst (v := 0) dX6_findMore_61 (by decide) ?_
        cases h
        exact wp_pick (ks := [0, 1, 2, 3, 4, 5]) rfl hJ
      · have h := ite_f hc6 h
        refine wp_iconst (v := 1) dX6_findMore_57 (by decide) ?_
        refine wp_goto (tgt := 62) dX6_findMore_58 (by decide) ?_
        cases h
        exact wp_pick (ks := [0, 1, 2, 3, 4, 5]) rfl hJ
set_option maxHeartbeats 4000000 in
set_option maxRecDepth 100000 in
theorem wX6_findMore_8 (N : Nat) (d : Nat) (hd : 0 ≤ d) {S : gS} {J : gJ} (hS : Sh S)  (k1 : Int32) (k3 : Int32) {Q : gO → gS → gI → gJ → Prop} :
    ∀ (n : Nat) (v4 : Int32) (v5 : Int32) (I : gI) (res : Int32 × gI), mX6_findMore_8 N k1 k3 n v4 v5 I = some res → (∀ (o4 : Int32) (O : gI), res = (o4, O) → Wp RX6 cX6_findMore 10 (some .boolean) [] hF d 0 0 243 [(3, .int k3), (4, .int o4)] [] S O J Q) → Wp RX6 cX6_findMore 10 (some .boolean) [] hF d 0 0 8 [(0, .ref 30), (1, .int k1), (3, .int k3), (4, .int v4), (5, .int v5)] [] S I J Q := by
  intro n
  induction n with
  | zero => intro v4 v5 I res h; exact nso h
  | succ n ih =>
    intro v4 v5 I res h kx
    rw [mX6_findMore_8] at h
    refine wp_iload dX6_findMore_8 rfl ?_
    refine wp_bipush (v := 8) dX6_findMore_10 (by decide) ?_
    refine wp_icmp_ge (tgt := 243) dX6_findMore_12 (by decide) (fun hc1 => ?_) (fun hc1 => ?_)
    · have h := ite_t hc1 h
      exact wp_pick (ks := [2, 3]) rfl (kx _ _ (sji h).symm)
    · have h := ite_f hc1 h
      refine wp_iload dX6_findMore_15 rfl ?_
      refine wp_iload_n dX6_findMore_17 rfl rfl ?_
      refine wp_iushr dX6_findMore_18 ?_
      refine wp_iconst (v := 1) dX6_findMore_19 (by decide) ?_
      refine wp_iand dX6_findMore_20 ?_
      refine wp_if_ne (tgt := 243) dX6_findMore_21 (by decide) (fun hc2 => ?_) (fun hc2 => ?_)
      · have h := ite_f hc2 h
        exact wp_pick (ks := [2, 3]) rfl (kx _ _ (sji h).symm)
      · have h := ite_t hc2 h
        refine wp_iconst (v := 0) dX6_findMore_24 (by decide) ?_
        refine wp_istore (ls' := [(6, .int 0), (0, .ref 30), (1, .int k1), (3, .int k3), (4, .int v4), (5, .int v5)]) dX6_findMore_25 (Nat.le_of_ble_eq_true rfl) rfl ?_
        obtain ⟨⟨y39, I40⟩, hL941, h⟩ := obi h
        refine wp_pick (ks := [1, 2, 3, 4, 5, 0]) rfl (wX6_findMore_27 d hd hS  k1 k3 v5 N v4 0 I _ hL941 (fun _ _ e42 => ?_))
        cases e42
        refine wp_iinc (v := 1) (ls' := [(5, .int (v5 + 1)), (0, .ref 30), (1, .int k1), (3, .int k3), (4, .int y39)]) dX6_findMore_237 rfl (by decide) (Nat.le_of_ble_eq_true rfl) rfl ?_
        refine wp_goto (tgt := 8) dX6_findMore_240 (by decide) ?_
        exact wp_pick (ks := [1, 2, 3, 4, 0]) rfl (ih _ _ _ _ h kx)
set_option maxHeartbeats 4000000 in
set_option maxRecDepth 100000 in
theorem ct_X6_findMore (N : Nat) (d : Nat) (hd : 0 ≤ d) {S : gS} {J : gJ} (hS : Sh S)  {a2 : Int32} {a3 : Int32} {a4 : Int32} {I : gI} {r : Int32 × gI} (h : mX6_findMore N a2 a3 a4 I = some r) : Ct yX6_findMore (wsY yX6_findMore cX6_findMore 10 (some .boolean)) d 0 0 [.ref 30, .int a2, .int a3, .int a4] S I J (qE (.inl (some (.int r.1))) S r.2 J) := by
  refine Ct.of hF (fun _ _ _ _ _ => trivial) (by decide +kernel) (Nat.le_of_ble_eq_true rfl) ⟨Or.inl (sn30 hS), trivial, trivial, trivial, trivial⟩ ?_
  show Wp RX6 cX6_findMore 10 (some .boolean) [] hF d 0 0 0 [(0, .ref 30), (1, .int a2), (2, .int a3), (3, .int a4)] [] S I J _
  unfold mX6_findMore at h
  refine wp_iconst (v := 1) dX6_findMore_0 (by decide) ?_
  refine wp_iload_n dX6_findMore_1 rfl rfl ?_
  refine wp_ishl dX6_findMore_2 ?_
  refine wp_istore (ls' := [(4, .int ((1 : Int32) <<< (a3 &&& 31))), (0, .ref 30), (1, .int a2), (2, .int a3), (3, .int a4)]) dX6_findMore_3 (Nat.le_of_ble_eq_true rfl) rfl ?_
  refine wp_iconst (v := 0) dX6_findMore_5 (by decide) ?_
  refine wp_istore (ls' := [(5, .int 0), (4, .int ((1 : Int32) <<< (a3 &&& 31))), (0, .ref 30), (1, .int a2), (2, .int a3), (3, .int a4)]) dX6_findMore_6 (Nat.le_of_ble_eq_true rfl) rfl ?_
  obtain ⟨⟨y43, I44⟩, hL946, h⟩ := obi h
  refine wp_pick (ks := [2, 3, 5, 1, 0]) rfl (wX6_findMore_8 N d hd hS  a2 a4 N ((1 : Int32) <<< (a3 &&& 31)) 0 I _ hL946 (fun _ _ e47 => ?_))
  cases e47
  refine wp_iload dX6_findMore_243 rfl ?_
  refine wp_iload_n dX6_findMore_245 rfl rfl ?_
  refine wp_iushr dX6_findMore_246 ?_
  refine wp_iconst (v := 1) dX6_findMore_247 (by decide) ?_
  refine wp_iand dX6_findMore_248 ?_
  refine wp_if_eq (tgt := 256) dX6_findMore_249 (by decide) (fun hc45 => ?_) (fun hc45 => ?_)
  · have h := ite_t hc45 h
    refine wp_iconst (v := 0) dX6_findMore_256 (by decide) ?_
    exact wp_zret dX6_findMore_257 rfl (by decide) (by obtain rfl := sji h; exact ⟨rfl, rfl, rfl, rfl⟩)
  · have h := ite_f hc45 h
    refine wp_iconst (v := 1) dX6_findMore_252 (by decide) ?_
    refine wp_goto (tgt := 257) dX6_findMore_253 (by decide) ?_
    exact wp_zret dX6_findMore_257 rfl (by decide) (by obtain rfl := sji h; exact ⟨rfl, rfl, rfl, rfl⟩)
def mX6_sendMore_9 (k1 : Int32) (k2 : Int32) (I : gI) : Nat → Int32 → Int32 → Int32 → Option (Int32)
  | 0, _, _, _ => none
  | n + 1, v3, v4, v5 => if 8 ≤ v5 then (some v3) else (if v4 = k1 then (some v3) else (ck v4 8 (Option.bind (if 0 ≤ (I 35 v4.toNatClampNeg) then (some 0) else (some 1) : Option (Int32)) (fun x4 => Option.bind (if x4 = 0 then (ck ((I 35 v4.toNatClampNeg) &&& 15) 16 (nm ((I 31 ((I 35 v4.toNatClampNeg) &&& 15).toNatClampNeg) - (I 34 ((I 35 v4.toNatClampNeg) &&& 15).toNatClampNeg)) (fun x9 => some x9))) else (ck ((I 35 v4.toNatClampNeg) &&& 15) 16 (some (I 34 ((I 35 v4.toNatClampNeg) &&& 15).toNatClampNeg))) : Option (Int32)) (fun x6 => if x4 = 0 then (ck ((I 35 v4.toNatClampNeg) &&& 15) 16 (mX6_sendMore_9 k1 k2 I n (if x6 < v3 then x6 else v3) (I 3 ((I 35 v4.toNatClampNeg) &&& 15).toNatClampNeg) (v5 + 1))) else (ck ((I 35 v4.toNatClampNeg) &&& 15) 16 (mX6_sendMore_9 k1 k2 I n (if x6 < v3 then x6 else v3) (I 4 ((I 35 v4.toNatClampNeg) &&& 15).toNatClampNeg) (v5 + 1))))))))
def mX6_sendMore_128 (k1 : Int32) (k3 : Int32) : Nat → Int32 → Int32 → gI → Option (gI)
  | 0, _, _, _ => none
  | n + 1, v4, v5, I => if 8 ≤ v5 then (some I) else (if v4 = k1 then (some I) else (ck v4 8 (Option.bind (if 0 ≤ (I 35 v4.toNatClampNeg) then (some 0) else (some 1) : Option (Int32)) (fun x21 => ck ((I 35 v4.toNatClampNeg) &&& 15) 16 (Option.bind (if x21 = 0 then (some k3) else (some (-k3)) : Option (Int32)) (fun x24 => nm ((I 34 ((I 35 v4.toNatClampNeg) &&& 15).toNatClampNeg) + x24) (fun x26 => if x21 = 0 then (nm ((upd2 I 34 ((I 35 v4.toNatClampNeg) &&& 15).toNatClampNeg x26) 3 ((I 35 v4.toNatClampNeg) &&& 15).toNatClampNeg) (fun x29 => mX6_sendMore_128 k1 k3 n x29 (v5 + 1) (upd2 I 34 ((I 35 v4.toNatClampNeg) &&& 15).toNatClampNeg x26))) else (nm ((upd2 I 34 ((I 35 v4.toNatClampNeg) &&& 15).toNatClampNeg x26) 4 ((I 35 v4.toNatClampNeg) &&& 15).toNatClampNeg) (fun x31 => mX6_sendMore_128 k1 k3 n x31 (v5 + 1) (upd2 I 34 ((I 35 v4.toNatClampNeg) &&& 15).toNatClampNeg x26))))))))))
def mX6_sendMore (N : Nat) (a2 : Int32) (a3 : Int32) (I : gI) : Option (Int32 × gI) := Option.bind (mX6_sendMore_9 a2 a3 I N 1000000 a3 0) (fun y17 => Option.bind (mX6_sendMore_128 a2 y17 N a3 0 I) (fun I35 => some (y17, I35)))
set_option maxHeartbeats 4000000 in
set_option maxRecDepth 100000 in
theorem wX6_sendMore_9 (d : Nat) (hd : 1 ≤ d) {S : gS} {J : gJ} (hS : Sh S)  (k1 : Int32) (k2 : Int32) (I : gI) {Q : gO → gS → gI → gJ → Prop} :
    ∀ (n : Nat) (v3 : Int32) (v4 : Int32) (v5 : Int32) (res : Int32), mX6_sendMore_9 k1 k2 I n v3 v4 v5 = some res → (∀ (o3 : Int32), res = o3 → Wp RX6 cX6_sendMore 8 (some .int) [] hF d 0 0 122 [(0, .ref 30), (1, .int k1), (2, .int k2), (3, .int o3)] [] S I J Q) → Wp RX6 cX6_sendMore 8 (some .int) [] hF d 0 0 9 [(0, .ref 30), (1, .int k1), (2, .int k2), (3, .int v3), (4, .int v4), (5, .int v5)] [] S I J Q := by
  intro n
  induction n with
  | zero => intro v3 v4 v5 res h; exact nso h
  | succ n ih =>
    intro v3 v4 v5 res h kx
    rw [mX6_sendMore_9] at h
    refine wp_iload dX6_sendMore_9 rfl ?_
    refine wp_bipush (v := 8) dX6_sendMore_11 (by decide) ?_
    refine wp_icmp_ge (tgt := 122) dX6_sendMore_13 (by decide) (fun hc1 => ?_) (fun hc1 => ?_)
    · have h := ite_t hc1 h
      exact wp_pick (ks := [0, 1, 2, 3]) rfl (kx _ (sji h).symm)
    · have h := ite_f hc1 h
      refine wp_iload dX6_sendMore_16 rfl ?_
      refine wp_iload_n dX6_sendMore_18 rfl rfl ?_
      refine wp_icmp_eq (tgt := 122) dX6_sendMore_19 (by decide) (fun hc2 => ?_) (fun hc2 => ?_)
      · have h := ite_t hc2 h
        exact wp_pick (ks := [0, 1, 2, 3]) rfl (kx _ (sji h).symm)
      · have h := ite_f hc2 h
        refine wp_aload_n dX6_sendMore_22 rfl rfl ?_
        refine wp_getR dX6_sendMore_23 flX6_24 rfl (sk30 hS) (sn30 hS) (sr30_5 hS) ?_
        refine wp_iload dX6_sendMore_26 rfl ?_
        obtain ⟨hb3, h⟩ := ck_inv h
        refine wp_iald dX6_sendMore_28 (sk35 hS) (sn35 hS) hb3 ?_
        refine wp_bipush (v := 15) dX6_sendMore_29 (by decide) ?_
        refine wp_iand dX6_sendMore_31 ?_
        refine wp_istore (ls' := [(6, .int ((I 35 v4.toNatClampNeg) &&& 15)), (0, .ref 30), (1, .int k1), (2, .int k2), (3, .int v3), (4, .int v4), (5, .int v5)]) dX6_sendMore_32 (Nat.le_of_ble_eq_true rfl) rfl ?_
        refine wp_aload_n dX6_sendMore_34 rfl rfl ?_
        refine wp_getR dX6_sendMore_35 flX6_24 rfl (sk30 hS) (sn30 hS) (sr30_5 hS) ?_
        refine wp_iload dX6_sendMore_38 rfl ?_
        refine wp_iald dX6_sendMore_40 (sk35 hS) (sn35 hS) hb3 ?_
        obtain ⟨x4, hh16, h⟩ := obi h
        have hJ : Wp RX6 cX6_sendMore 8 (some .int) [] hF d 0 0 49 [(0, .ref 30), (1, .int k1), (2, .int k2), (3, .int v3), (5, .int v5), (6, .int ((I 35 v4.toNatClampNeg) &&& 15))] [.int x4] S I J Q := by
          refine wp_istore (ls' := [(7, .int x4), (0, .ref 30), (1, .int k1), (2, .int k2), (3, .int v3), (5, .int v5), (6, .int ((I 35 v4.toNatClampNeg) &&& 15))]) dX6_sendMore_49 (Nat.le_of_ble_eq_true rfl) rfl ?_
          refine wp_iload_n dX6_sendMore_51 rfl rfl ?_
          refine wp_iload dX6_sendMore_52 rfl ?_
          obtain ⟨x6, hh15, h⟩ := obi h
          have hJ : Wp RX6 cX6_sendMore 8 (some .int) [] hF d 0 0 82 [(0, .ref 30), (1, .int k1), (2, .int k2), (5, .int v5), (6, .int ((I 35 v4.toNatClampNeg) &&& 15)), (7, .int x4)] [.int x6, .int v3] S I J Q := by
            refine wp_min dX6_sendMore_82 mlX6_68 ma_min1 ma_2 ma_min3 (Nat.le_trans (by decide) hd) (Nat.le_of_ble_eq_true rfl) ?_
            refine wp_istore_n (ls' := [(3, .int (if x6 < v3 then x6 else v3)), (0, .ref 30), (1, .int k1), (2, .int k2), (5, .int v5), (6, .int ((I 35 v4.toNatClampNeg) &&& 15)), (7, .int x4)]) dX6_sendMore_85 rfl (Nat.le_of_ble_eq_true rfl) rfl ?_
            refine wp_iload dX6_sendMore_86 rfl ?_
            refine wp_if_eq (tgt := 104) dX6_sendMore_88 (by decide) (fun hc12 => ?_) (fun hc12 => ?_)
            · have h := ite_t hc12 h
              refine wp_aload_n dX6_sendMore_104 rfl rfl ?_
              refine wp_getR dX6_sendMore_105 flX6_27 rfl (sk30 hS) (sn30 hS) (sr30_0 hS) ?_
              refine wp_getR dX6_sendMore_108 flX6_37 rfl (sk2 hS) (sn2 hS) (sr2_3 hS) ?_
              refine wp_iload dX6_sendMore_111 rfl ?_
              obtain ⟨hb13, h⟩ := ck_inv h
              refine wp_iald dX6_sendMore_113 (sk3 hS) (sn3 hS) hb13 ?_
              refine wp_istore (ls' := [(4, .int (I 3 ((I 35 v4.toNatClampNeg) &&& 15).toNatClampNeg)), (3, .int (if x6 < v3 then x6 else v3)), (0, .ref 30), (1, .int k1), (2, .int k2), (5, .int v5), (6, .int ((I 35 v4.toNatClampNeg) &&& 15)), (7, .int x4)]) dX6_sendMore_114 (Nat.le_of_ble_eq_true rfl) rfl ?_
              refine wp_iinc (v := 1) (ls' := [(5, .int (v5 + 1)), (4, .int (I 3 ((I 35 v4.toNatClampNeg) &&& 15).toNatClampNeg)), (3, .int (if x6 < v3 then x6 else v3)), (0, .ref 30), (1, .int k1), (2, .int k2), (6, .int ((I 35 v4.toNatClampNeg) &&& 15)), (7, .int x4)]) dX6_sendMore_116 rfl (by decide) (Nat.le_of_ble_eq_true rfl) rfl ?_
              refine wp_goto (tgt := 9) dX6_sendMore_119 (by decide) ?_
              exact wp_pick (ks := [3, 4, 5, 2, 1, 0]) rfl (ih _ _ _ _ h kx)
            · have h := ite_f hc12 h
              refine wp_aload_n dX6_sendMore_91 rfl rfl ?_
              refine wp_getR dX6_sendMore_92 flX6_27 rfl (sk30 hS) (sn30 hS) (sr30_0 hS) ?_
              refine wp_getR dX6_sendMore_95 flX6_40 rfl (sk2 hS) (sn2 hS) (sr2_4 hS) ?_
              refine wp_iload dX6_sendMore_98 rfl ?_
              obtain ⟨hb14, h⟩ := ck_inv h
              refine wp_iald dX6_sendMore_100 (sk4 hS) (sn4 hS) hb14 ?_
              refine wp_goto (tgt := 114) dX6_sendMore_101 (by decide) ?_
              refine wp_istore (ls' := [(4, .int (I 4 ((I 35 v4.toNatClampNeg) &&& 15).toNatClampNeg)), (3, .int (if x6 < v3 then x6 else v3)), (0, .ref 30), (1, .int k1), (2, .int k2), (5, .int v5), (6, .int ((I 35 v4.toNatClampNeg) &&& 15)), (7, .int x4)]) dX6_sendMore_114 (Nat.le_of_ble_eq_true rfl) rfl ?_
              refine wp_iinc (v := 1) (ls' := [(5, .int (v5 + 1)), (4, .int (I 4 ((I 35 v4.toNatClampNeg) &&& 15).toNatClampNeg)), (3, .int (if x6 < v3 then x6 else v3)), (0, .ref 30), (1, .int k1), (2, .int k2), (6, .int ((I 35 v4.toNatClampNeg) &&& 15)), (7, .int x4)]) dX6_sendMore_116 rfl (by decide) (Nat.le_of_ble_eq_true rfl) rfl ?_
              refine wp_goto (tgt := 9) dX6_sendMore_119 (by decide) ?_
              exact wp_pick (ks := [3, 4, 5, 2, 1, 0]) rfl (ih _ _ _ _ h kx)
          clear h
          have h := hh15
          clear hh15
          refine wp_if_eq (tgt := 67) dX6_sendMore_54 (by decide) (fun hc7 => ?_) (fun hc7 => ?_)
          · have h := ite_t hc7 h
            refine wp_aload_n dX6_sendMore_67 rfl rfl ?_
            refine wp_getR dX6_sendMore_68 flX6_9 rfl (sk30 hS) (sn30 hS) (sr30_1 hS) ?_
            refine wp_iload dX6_sendMore_71 rfl ?_
            obtain ⟨hb8, h⟩ := ck_inv h
            refine wp_iald dX6_sendMore_73 (sk31 hS) (sn31 hS) hb8 ?_
            refine wp_aload_n dX6_sendMore_74 rfl rfl ?_
            refine wp_getR dX6_sendMore_75 flX6_21 rfl (sk30 hS) (sn30 hS) (sr30_4 hS) ?_
            refine wp_iload dX6_sendMore_78 rfl ?_
            refine wp_iald dX6_sendMore_80 (sk34 hS) (sn34 hS) hb8 ?_
            refine wp_isub dX6_sendMore_81 ?_
            obtain ⟨x9, hx10, h⟩ := nm_inv h
            refine wp_topi hx10 ?_
            cases h
            exact wp_pick (ks := [1, 2, 3, 5, 6, 0]) rfl hJ
          · have h := ite_f hc7 h
            refine wp_aload_n dX6_sendMore_57 rfl rfl ?_
            refine wp_getR dX6_sendMore_58 flX6_21 rfl (sk30 hS) (sn30 hS) (sr30_4 hS) ?_
            refine wp_iload dX6_sendMore_61 rfl ?_
            obtain ⟨hb11, h⟩ := ck_inv h
            refine wp_iald dX6_sendMore_63 (sk34 hS) (sn34 hS) hb11 ?_
            refine wp_goto (tgt := 82) dX6_sendMore_64 (by decide) ?_
            cases h
            exact wp_pick (ks := [1, 2, 3, 5, 6, 0]) rfl hJ
        clear h
        have h := hh16
        clear hh16
        refine wp_if_ge (tgt := 48) dX6_sendMore_41 (by decide) (fun hc5 => ?_) (fun hc5 => ?_)
        · have h := ite_t hc5 h
          refine wp_iconst (v := 0) dX6_sendMore_48 (by decide) ?_
          cases h
          exact wp_pick (ks := [1, 2, 3, 4, 6, 0]) rfl hJ
        · have h := ite_f hc5 h
          refine wp_iconst (v := 1) dX6_sendMore_44 (by decide) ?_
          refine wp_goto (tgt := 49) dX6_sendMore_45 (by decide) ?_
          cases h
          exact wp_pick (ks := [1, 2, 3, 4, 6, 0]) rfl hJ
set_option maxHeartbeats 4000000 in
set_option maxRecDepth 100000 in
theorem wX6_sendMore_128 (d : Nat) (hd : 1 ≤ d) {S : gS} {J : gJ} (hS : Sh S)  (k1 : Int32) (k3 : Int32) {Q : gO → gS → gI → gJ → Prop} :
    ∀ (n : Nat) (v4 : Int32) (v5 : Int32) (I : gI) (res : gI), mX6_sendMore_128 k1 k3 n v4 v5 I = some res → (∀ (O : gI), res = O → Wp RX6 cX6_sendMore 8 (some .int) [] hF d 0 0 227 [(3, .int k3)] [] S O J Q) → Wp RX6 cX6_sendMore 8 (some .int) [] hF d 0 0 128 [(0, .ref 30), (1, .int k1), (3, .int k3), (4, .int v4), (5, .int v5)] [] S I J Q := by
  intro n
  induction n with
  | zero => intro v4 v5 I res h; exact nso h
  | succ n ih =>
    intro v4 v5 I res h kx
    rw [mX6_sendMore_128] at h
    refine wp_iload dX6_sendMore_128 rfl ?_
    refine wp_bipush (v := 8) dX6_sendMore_130 (by decide) ?_
    refine wp_icmp_ge (tgt := 227) dX6_sendMore_132 (by decide) (fun hc18 => ?_) (fun hc18 => ?_)
    · have h := ite_t hc18 h
      exact wp_pick (ks := [2]) rfl (kx _ (sji h).symm)
    · have h := ite_f hc18 h
      refine wp_iload dX6_sendMore_135 rfl ?_
      refine wp_iload_n dX6_sendMore_137 rfl rfl ?_
      refine wp_icmp_eq (tgt := 227) dX6_sendMore_138 (by decide) (fun hc19 => ?_) (fun hc19 => ?_)
      · have h := ite_t hc19 h
        exact wp_pick (ks := [2]) rfl (kx _ (sji h).symm)
      · have h := ite_f hc19 h
        refine wp_aload_n dX6_sendMore_141 rfl rfl ?_
        refine wp_getR dX6_sendMore_142 flX6_24 rfl (sk30 hS) (sn30 hS) (sr30_5 hS) ?_
        refine wp_iload dX6_sendMore_145 rfl ?_
        obtain ⟨hb20, h⟩ := ck_inv h
        refine wp_iald dX6_sendMore_147 (sk35 hS) (sn35 hS) hb20 ?_
        refine wp_bipush (v := 15) dX6_sendMore_148 (by decide) ?_
        refine wp_iand dX6_sendMore_150 ?_
        refine wp_istore (ls' := [(6, .int ((I 35 v4.toNatClampNeg) &&& 15)), (0, .ref 30), (1, .int k1), (3, .int k3), (4, .int v4), (5, .int v5)]) dX6_sendMore_151 (Nat.le_of_ble_eq_true rfl) rfl ?_
        refine wp_aload_n dX6_sendMore_153 rfl rfl ?_
        refine wp_getR dX6_sendMore_154 flX6_24 rfl (sk30 hS) (sn30 hS) (sr30_5 hS) ?_
        refine wp_iload dX6_sendMore_157 rfl ?_
        refine wp_iald dX6_sendMore_159 (sk35 hS) (sn35 hS) hb20 ?_
        obtain ⟨x21, hh34, h⟩ := obi h
        have hJ : Wp RX6 cX6_sendMore 8 (some .int) [] hF d 0 0 168 [(0, .ref 30), (1, .int k1), (3, .int k3), (5, .int v5), (6, .int ((I 35 v4.toNatClampNeg) &&& 15))] [.int x21] S I J Q := by
          refine wp_istore (ls' := [(7, .int x21), (0, .ref 30), (1, .int k1), (3, .int k3), (5, .int v5), (6, .int ((I 35 v4.toNatClampNeg) &&& 15))]) dX6_sendMore_168 (Nat.le_of_ble_eq_true rfl) rfl ?_
          refine wp_aload_n dX6_sendMore_170 rfl rfl ?_
          refine wp_getR dX6_sendMore_171 flX6_21 rfl (sk30 hS) (sn30 hS) (sr30_4 hS) ?_
          refine wp_iload dX6_sendMore_174 rfl ?_
          refine wp_dup2 dX6_sendMore_176 rfl rfl ?_
          obtain ⟨hb23, h⟩ := ck_inv h
          refine wp_iald dX6_sendMore_177 (sk34 hS) (sn34 hS) hb23 ?_
          refine wp_iload dX6_sendMore_178 rfl ?_
          obtain ⟨x24, hh33, h⟩ := obi h
          have hJ : Wp RX6 cX6_sendMore 8 (some .int) [] hF d 0 0 189 [(0, .ref 30), (1, .int k1), (3, .int k3), (5, .int v5), (6, .int ((I 35 v4.toNatClampNeg) &&& 15)), (7, .int x21)] [.int x24, .int (I 34 ((I 35 v4.toNatClampNeg) &&& 15).toNatClampNeg), .int ((I 35 v4.toNatClampNeg) &&& 15), .ref 34] S I J Q := by
            refine wp_iadd dX6_sendMore_189 ?_
            obtain ⟨x26, hx27, h⟩ := nm_inv h
            refine wp_topi hx27 ?_
            refine wp_iast dX6_sendMore_190 (sk34 hS) (sn34 hS) hb23 ?_
            refine wp_iload dX6_sendMore_191 rfl ?_
            refine wp_if_eq (tgt := 209) dX6_sendMore_193 (by decide) (fun hc28 => ?_) (fun hc28 => ?_)
            · have h := ite_t hc28 h
              refine wp_aload_n dX6_sendMore_209 rfl rfl ?_
              refine wp_getR dX6_sendMore_210 flX6_27 rfl (sk30 hS) (sn30 hS) (sr30_0 hS) ?_
              refine wp_getR dX6_sendMore_213 flX6_37 rfl (sk2 hS) (sn2 hS) (sr2_3 hS) ?_
              refine wp_iload dX6_sendMore_216 rfl ?_
              refine wp_iald dX6_sendMore_218 (sk3 hS) (sn3 hS) hb23 ?_
              obtain ⟨x29, hx30, h⟩ := nm_inv h
              refine wp_topi hx30 ?_
              refine wp_istore (ls' := [(4, .int x29), (0, .ref 30), (1, .int k1), (3, .int k3), (5, .int v5), (6, .int ((I 35 v4.toNatClampNeg) &&& 15)), (7, .int x21)]) dX6_sendMore_219 (Nat.le_of_ble_eq_true rfl) rfl ?_
              refine wp_iinc (v := 1) (ls' := [(5, .int (v5 + 1)), (4, .int x29), (0, .ref 30), (1, .int k1), (3, .int k3), (6, .int ((I 35 v4.toNatClampNeg) &&& 15)), (7, .int x21)]) dX6_sendMore_221 rfl (by decide) (Nat.le_of_ble_eq_true rfl) rfl ?_
              refine wp_goto (tgt := 128) dX6_sendMore_224 (by decide) ?_
              exact wp_pick (ks := [2, 3, 4, 1, 0]) rfl (ih _ _ _ _ h kx)
            · have h := ite_f hc28 h
              refine wp_aload_n dX6_sendMore_196 rfl rfl ?_
              refine wp_getR dX6_sendMore_197 flX6_27 rfl (sk30 hS) (sn30 hS) (sr30_0 hS) ?_
              refine wp_getR dX6_sendMore_200 flX6_40 rfl (sk2 hS) (sn2 hS) (sr2_4 hS) ?_
              refine wp_iload dX6_sendMore_203 rfl ?_
              refine wp_iald dX6_sendMore_205 (sk4 hS) (sn4 hS) hb23 ?_
              obtain ⟨x31, hx32, h⟩ := nm_inv h
              refine wp_topi hx32 ?_
              refine wp_goto (tgt := 219) dX6_sendMore_206 (by decide) ?_
              refine wp_istore (ls' := [(4, .int x31), (0, .ref 30), (1, .int k1), (3, .int k3), (5, .int v5), (6, .int ((I 35 v4.toNatClampNeg) &&& 15)), (7, .int x21)]) dX6_sendMore_219 (Nat.le_of_ble_eq_true rfl) rfl ?_
              refine wp_iinc (v := 1) (ls' := [(5, .int (v5 + 1)), (4, .int x31), (0, .ref 30), (1, .int k1), (3, .int k3), (6, .int ((I 35 v4.toNatClampNeg) &&& 15)), (7, .int x21)]) dX6_sendMore_221 rfl (by decide) (Nat.le_of_ble_eq_true rfl) rfl ?_
              refine wp_goto (tgt := 128) dX6_sendMore_224 (by decide) ?_
              exact wp_pick (ks := [2, 3, 4, 1, 0]) rfl (ih _ _ _ _ h kx)
          clear h
          have h := hh33
          clear hh33
          refine wp_if_eq (tgt := 188) dX6_sendMore_180 (by decide) (fun hc25 => ?_) (fun hc25 => ?_)
          · have h := ite_t hc25 h
            refine wp_iload_n dX6_sendMore_188 rfl rfl ?_
            cases h
            exact wp_pick (ks := [1, 2, 3, 4, 5, 0]) rfl hJ
          · have h := ite_f hc25 h
            refine wp_iload_n dX6_sendMore_183 rfl rfl ?_
            refine wp_ineg dX6_sendMore_184 ?_
            refine wp_goto (tgt := 189) dX6_sendMore_185 (by decide) ?_
            cases h
            exact wp_pick (ks := [1, 2, 3, 4, 5, 0]) rfl hJ
        clear h
        have h := hh34
        clear hh34
        refine wp_if_ge (tgt := 167) dX6_sendMore_160 (by decide) (fun hc22 => ?_) (fun hc22 => ?_)
        · have h := ite_t hc22 h
          refine wp_iconst (v := 0) dX6_sendMore_167 (by decide) ?_
          cases h
          exact wp_pick (ks := [1, 2, 3, 5, 0]) rfl hJ
        · have h := ite_f hc22 h
          refine wp_iconst (v := 1) dX6_sendMore_163 (by decide) ?_
          refine wp_goto (tgt := 168) dX6_sendMore_164 (by decide) ?_
          cases h
          exact wp_pick (ks := [1, 2, 3, 5, 0]) rfl hJ
set_option maxHeartbeats 4000000 in
set_option maxRecDepth 100000 in
theorem ct_X6_sendMore (N : Nat) (d : Nat) (hd : 1 ≤ d) {S : gS} {J : gJ} (hS : Sh S)  {a2 : Int32} {a3 : Int32} {I : gI} {r : Int32 × gI} (h : mX6_sendMore N a2 a3 I = some r) : Ct yX6_sendMore (wsY yX6_sendMore cX6_sendMore 8 (some .int)) d 0 0 [.ref 30, .int a2, .int a3] S I J (qE (.inl (some (.int r.1))) S r.2 J) := by
  refine Ct.of hF (fun _ _ _ _ _ => trivial) (by decide +kernel) (Nat.le_of_ble_eq_true rfl) ⟨Or.inl (sn30 hS), trivial, trivial, trivial⟩ ?_
  show Wp RX6 cX6_sendMore 8 (some .int) [] hF d 0 0 0 [(0, .ref 30), (1, .int a2), (2, .int a3)] [] S I J _
  unfold mX6_sendMore at h
  refine wp_ldc dX6_sendMore_0 koX6_43 ?_
  refine wp_istore_n (ls' := [(3, .int 1000000), (0, .ref 30), (1, .int a2), (2, .int a3)]) dX6_sendMore_2 rfl (Nat.le_of_ble_eq_true rfl) rfl ?_
  refine wp_iload_n dX6_sendMore_3 rfl rfl ?_
  refine wp_istore (ls' := [(4, .int a3), (3, .int 1000000), (0, .ref 30), (1, .int a2), (2, .int a3)]) dX6_sendMore_4 (Nat.le_of_ble_eq_true rfl) rfl ?_
  refine wp_iconst (v := 0) dX6_sendMore_6 (by decide) ?_
  refine wp_istore (ls' := [(5, .int 0), (4, .int a3), (3, .int 1000000), (0, .ref 30), (1, .int a2), (2, .int a3)]) dX6_sendMore_7 (Nat.le_of_ble_eq_true rfl) rfl ?_
  obtain ⟨y17, hL938, h⟩ := obi h
  refine wp_pick (ks := [3, 4, 5, 2, 1, 0]) rfl (wX6_sendMore_9 d hd hS  a2 a3 I N 1000000 a3 0 _ hL938 (fun _ e39 => ?_))
  cases e39
  refine wp_iload_n dX6_sendMore_122 rfl rfl ?_
  refine wp_istore (ls' := [(4, .int a3), (0, .ref 30), (1, .int a2), (2, .int a3), (3, .int y17)]) dX6_sendMore_123 (Nat.le_of_ble_eq_true rfl) rfl ?_
  refine wp_iconst (v := 0) dX6_sendMore_125 (by decide) ?_
  refine wp_istore (ls' := [(5, .int 0), (4, .int a3), (0, .ref 30), (1, .int a2), (2, .int a3), (3, .int y17)]) dX6_sendMore_126 (Nat.le_of_ble_eq_true rfl) rfl ?_
  obtain ⟨I35, hL936, h⟩ := obi h
  refine wp_pick (ks := [2, 3, 5, 1, 0]) rfl (wX6_sendMore_128 d hd hS  a2 y17 N a3 0 I _ hL936 (fun _ e37 => ?_))
  cases e37
  refine wp_iload_n dX6_sendMore_227 rfl rfl ?_
  exact wp_iret dX6_sendMore_228 rfl (by obtain rfl := sji h; exact ⟨rfl, rfl, rfl, rfl⟩)
def mX6_mostFlow_3 (k1 : Int32) (k2 : Int32) (k3 : Int32) : Nat → Int32 → gI → Option (gI)
  | 0, _, _ => none
  | n + 1, v4, I => if 16 ≤ v4 then (some I) else (ck v4 16 (mX6_mostFlow_3 k1 k2 k3 n (v4 + 1) (upd2 I 34 v4.toNatClampNeg 0)))
def mX6_mostFlow_30 (N : Nat) (k1 : Int32) (k2 : Int32) (k3 : Int32) : Nat → Int32 → Int32 → gI → Option (Int32 × gI)
  | 0, _, _, _ => none
  | n + 1, v4, v5, I => if 1584 ≤ v5 then (some (v4, I)) else (Option.bind (mX6_findMore N k1 k2 k3 I) (fun (r5, I6) => if r5 = 0 then (some (v4, I6)) else (Option.bind (mX6_sendMore N k2 k3 I6) (fun (r9, I10) => mX6_mostFlow_30 N k1 k2 k3 n (v4 + r9) (v5 + 1) I10))))
def mX6_mostFlow (N : Nat) (a2 : Int32) (a3 : Int32) (a4 : Int32) (I : gI) : Option (Int32 × gI) := Option.bind (mX6_mostFlow_3 a2 a3 a4 N 0 I) (fun I3 => Option.bind (mX6_mostFlow_30 N a2 a3 a4 N 0 0 I3) (fun (y12, I13) => some (y12, I13)))
set_option maxHeartbeats 4000000 in
set_option maxRecDepth 100000 in
theorem wX6_mostFlow_3 (d : Nat) (hd : 2 ≤ d) {S : gS} {J : gJ} (hS : Sh S)  (k1 : Int32) (k2 : Int32) (k3 : Int32) {Q : gO → gS → gI → gJ → Prop} :
    ∀ (n : Nat) (v4 : Int32) (I : gI) (res : gI), mX6_mostFlow_3 k1 k2 k3 n v4 I = some res → (∀ (O : gI), res = O → Wp RX6 cX6_mostFlow 6 (some .int) [] hF d 0 0 24 [(0, .ref 30), (1, .int k1), (2, .int k2), (3, .int k3)] [] S O J Q) → Wp RX6 cX6_mostFlow 6 (some .int) [] hF d 0 0 3 [(0, .ref 30), (1, .int k1), (2, .int k2), (3, .int k3), (4, .int v4)] [] S I J Q := by
  intro n
  induction n with
  | zero => intro v4 I res h; exact nso h
  | succ n ih =>
    intro v4 I res h kx
    rw [mX6_mostFlow_3] at h
    refine wp_iload dX6_mostFlow_3 rfl ?_
    refine wp_bipush (v := 16) dX6_mostFlow_5 (by decide) ?_
    refine wp_icmp_ge (tgt := 24) dX6_mostFlow_7 (by decide) (fun hc1 => ?_) (fun hc1 => ?_)
    · have h := ite_t hc1 h
      exact wp_pick (ks := [0, 1, 2, 3]) rfl (kx _ (sji h).symm)
    · have h := ite_f hc1 h
      refine wp_aload_n dX6_mostFlow_10 rfl rfl ?_
      refine wp_getR dX6_mostFlow_11 flX6_21 rfl (sk30 hS) (sn30 hS) (sr30_4 hS) ?_
      refine wp_iload dX6_mostFlow_14 rfl ?_
      refine wp_iconst (v := 0) dX6_mostFlow_16 (by decide) ?_
      obtain ⟨hb2, h⟩ := ck_inv h
      refine wp_iast dX6_mostFlow_17 (sk34 hS) (sn34 hS) hb2 ?_
      refine wp_iinc (v := 1) (ls' := [(4, .int (v4 + 1)), (0, .ref 30), (1, .int k1), (2, .int k2), (3, .int k3)]) dX6_mostFlow_18 rfl (by decide) (Nat.le_of_ble_eq_true rfl) rfl ?_
      refine wp_goto (tgt := 3) dX6_mostFlow_21 (by decide) ?_
      exact wp_pick (ks := [1, 2, 3, 4, 0]) rfl (ih _ _ _ h kx)
set_option maxHeartbeats 4000000 in
set_option maxRecDepth 100000 in
theorem wX6_mostFlow_30 (N : Nat) (d : Nat) (hd : 2 ≤ d) {S : gS} {J : gJ} (hS : Sh S)  (k1 : Int32) (k2 : Int32) (k3 : Int32) {Q : gO → gS → gI → gJ → Prop} :
    ∀ (n : Nat) (v4 : Int32) (v5 : Int32) (I : gI) (res : Int32 × gI), mX6_mostFlow_30 N k1 k2 k3 n v4 v5 I = some res → (∀ (o4 : Int32) (O : gI), res = (o4, O) → Wp RX6 cX6_mostFlow 6 (some .int) [] hF d 0 0 65 [(4, .int o4)] [] S O J Q) → Wp RX6 cX6_mostFlow 6 (some .int) [] hF d 0 0 30 [(0, .ref 30), (1, .int k1), (2, .int k2), (3, .int k3), (4, .int v4), (5, .int v5)] [] S I J Q := by
  intro n
  induction n with
  | zero => intro v4 v5 I res h; exact nso h
  | succ n ih =>
    intro v4 v5 I res h kx
    rw [mX6_mostFlow_30] at h
    refine wp_iload dX6_mostFlow_30 rfl ?_
    refine wp_sipush (v := 1584) dX6_mostFlow_32 (by decide) ?_
    refine wp_icmp_ge (tgt := 65) dX6_mostFlow_35 (by decide) (fun hc4 => ?_) (fun hc4 => ?_)
    · have h := ite_t hc4 h
      exact wp_pick (ks := [4]) rfl (kx _ _ (sji h).symm)
    · have h := ite_f hc4 h
      refine wp_aload_n dX6_mostFlow_38 rfl rfl ?_
      refine wp_iload_n dX6_mostFlow_39 rfl rfl ?_
      refine wp_iload_n dX6_mostFlow_40 rfl rfl ?_
      refine wp_iload_n dX6_mostFlow_41 rfl rfl ?_
      obtain ⟨⟨r5, I6⟩, hF7, h⟩ := obi h
      refine wp_callVi (ci := 6) (As := [.int k1, .int k2, .int k3]) dX6_mostFlow_42 lbX6_findMore mlX6_77 imX6_findMore seX6_findMore vc6 (ct_X6_findMore N 0 (Nat.le_refl _) hS  hF7) rfl rfl (Nat.le_trans (by decide) hd) (sk30 hS) (sn30 hS) (Nat.le_of_ble_eq_true rfl) (fun _ => ?_)
      refine wp_if_eq (tgt := 65) dX6_mostFlow_45 (by decide) (fun hc8 => ?_) (fun hc8 => ?_)
      · have h := ite_t hc8 h
        exact wp_pick (ks := [4]) rfl (kx _ _ (sji h).symm)
      · have h := ite_f hc8 h
        refine wp_iload dX6_mostFlow_48 rfl ?_
        refine wp_aload_n dX6_mostFlow_50 rfl rfl ?_
        refine wp_iload_n dX6_mostFlow_51 rfl rfl ?_
        refine wp_iload_n dX6_mostFlow_52 rfl rfl ?_
        obtain ⟨⟨r9, I10⟩, hF11, h⟩ := obi h
        refine wp_callVi (ci := 6) (As := [.int k2, .int k3]) dX6_mostFlow_53 lbX6_sendMore mlX6_81 imX6_sendMore seX6_sendMore vc6 (ct_X6_sendMore N 1 (Nat.le_refl _) hS  hF11) rfl rfl (Nat.le_trans (by decide) hd) (sk30 hS) (sn30 hS) (Nat.le_of_ble_eq_true rfl) (fun _ => ?_)
        refine wp_iadd dX6_mostFlow_56 ?_
        refine wp_istore (ls' := [(4, .int (v4 + r9)), (0, .ref 30), (1, .int k1), (2, .int k2), (3, .int k3), (5, .int v5)]) dX6_mostFlow_57 (Nat.le_of_ble_eq_true rfl) rfl ?_
        refine wp_iinc (v := 1) (ls' := [(5, .int (v5 + 1)), (4, .int (v4 + r9)), (0, .ref 30), (1, .int k1), (2, .int k2), (3, .int k3)]) dX6_mostFlow_59 rfl (by decide) (Nat.le_of_ble_eq_true rfl) rfl ?_
        refine wp_goto (tgt := 30) dX6_mostFlow_62 (by decide) ?_
        exact wp_pick (ks := [2, 3, 4, 5, 1, 0]) rfl (ih _ _ _ _ h kx)
set_option maxHeartbeats 4000000 in
set_option maxRecDepth 100000 in
theorem ct_X6_mostFlow (N : Nat) (d : Nat) (hd : 2 ≤ d) {S : gS} {J : gJ} (hS : Sh S)  {a2 : Int32} {a3 : Int32} {a4 : Int32} {I : gI} {r : Int32 × gI} (h : mX6_mostFlow N a2 a3 a4 I = some r) : Ct yX6_mostFlow (wsY yX6_mostFlow cX6_mostFlow 6 (some .int)) d 0 0 [.ref 30, .int a2, .int a3, .int a4] S I J (qE (.inl (some (.int r.1))) S r.2 J) := by
  refine Ct.of hF (fun _ _ _ _ _ => trivial) (by decide +kernel) (Nat.le_of_ble_eq_true rfl) ⟨Or.inl (sn30 hS), trivial, trivial, trivial, trivial⟩ ?_
  show Wp RX6 cX6_mostFlow 6 (some .int) [] hF d 0 0 0 [(0, .ref 30), (1, .int a2), (2, .int a3), (3, .int a4)] [] S I J _
  unfold mX6_mostFlow at h
  refine wp_iconst (v := 0) dX6_mostFlow_0 (by decide) ?_
  refine wp_istore (ls' := [(4, .int 0), (0, .ref 30), (1, .int a2), (2, .int a3), (3, .int a4)]) dX6_mostFlow_1 (Nat.le_of_ble_eq_true rfl) rfl ?_
  obtain ⟨I3, hL916, h⟩ := obi h
  refine wp_pick (ks := [1, 2, 3, 4, 0]) rfl (wX6_mostFlow_3 d hd hS  a2 a3 a4 N 0 I _ hL916 (fun _ e17 => ?_))
  cases e17
  refine wp_iconst (v := 0) dX6_mostFlow_24 (by decide) ?_
  refine wp_istore (ls' := [(4, .int 0), (0, .ref 30), (1, .int a2), (2, .int a3), (3, .int a4)]) dX6_mostFlow_25 (Nat.le_of_ble_eq_true rfl) rfl ?_
  refine wp_iconst (v := 0) dX6_mostFlow_27 (by decide) ?_
  refine wp_istore (ls' := [(5, .int 0), (4, .int 0), (0, .ref 30), (1, .int a2), (2, .int a3), (3, .int a4)]) dX6_mostFlow_28 (Nat.le_of_ble_eq_true rfl) rfl ?_
  obtain ⟨⟨y12, I13⟩, hL914, h⟩ := obi h
  refine wp_pick (ks := [2, 3, 4, 5, 1, 0]) rfl (wX6_mostFlow_30 N d hd hS  a2 a3 a4 N 0 0 I3 _ hL914 (fun _ _ e15 => ?_))
  cases e15
  refine wp_iload dX6_mostFlow_65 rfl ?_
  exact wp_iret dX6_mostFlow_67 rfl (by obtain rfl := sji h; exact ⟨rfl, rfl, rfl, rfl⟩)
