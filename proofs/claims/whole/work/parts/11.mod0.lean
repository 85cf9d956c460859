def mX11_thrown (I : gI) : Option (Int32) := some (I 310 0)
set_option maxHeartbeats 4000000 in
set_option maxRecDepth 100000 in
theorem ct_X11_thrown (d : Nat) (hd : 0 ≤ d) {S : gS} {J : gJ} (hS : Sh S)  {I : gI} {r : Int32} (h : mX11_thrown I = some r) : Ct yX11_thrown (wsY yX11_thrown cX11_thrown 1 (some .int)) d 0 0 [.ref 310] S I J (qE (.inl (some (.int r))) S I J) := by
  refine Ct.of hF (fun _ _ _ _ _ => trivial) (by decide +kernel) (Nat.le_of_ble_eq_true rfl) ⟨Or.inl (sn310 hS), trivial⟩ ?_
  show Wp RX11 cX11_thrown 1 (some .int) [] hF d 0 0 0 [(0, .ref 310)] [] S I J _
  unfold mX11_thrown at h
  refine wp_aload_n dX11_thrown_0 rfl rfl ?_
  refine wp_getI dX11_thrown_1 flX11_96 rfl (sk310 hS) (sn310 hS) ?_
  exact wp_iret dX11_thrown_4 rfl (by obtain rfl := sji h; exact ⟨rfl, rfl, rfl, rfl⟩)
def mX11_right (a2 : Int32) (a3 : Int32) (I : gI) : Option (Int32 × gI) := Option.bind (if (I 310 0) = 0 then (if a2 = 0 then (some (upd2 I 310 0 a3)) else (some I)) else (some I) : Option (gI)) (fun I1 => if (I1 310 0) = 0 then (some (1, I1)) else (some (0, I1)))
set_option maxHeartbeats 4000000 in
set_option maxRecDepth 100000 in
theorem ct_X11_right (d : Nat) (hd : 0 ≤ d) {S : gS} {J : gJ} (hS : Sh S)  {a2 : Int32} {a3 : Int32} {I : gI} {r : Int32 × gI} (h : mX11_right a2 a3 I = some r) : Ct yX11_right (wsY yX11_right cX11_right 3 (some .boolean)) d 0 0 [.ref 310, .int a2, .int a3] S I J (qE (.inl (some (.int r.1))) S r.2 J) := by
  refine Ct.of hF (fun _ _ _ _ _ => trivial) (by decide +kernel) (Nat.le_of_ble_eq_true rfl) ⟨Or.inl (sn310 hS), trivial, trivial, trivial⟩ ?_
  show Wp RX11 cX11_right 3 (some .boolean) [] hF d 0 0 0 [(0, .ref 310), (1, .int a2), (2, .int a3)] [] S I J _
  unfold mX11_right at h
  refine wp_aload_n dX11_right_0 rfl rfl ?_
  refine wp_getI dX11_right_1 flX11_96 rfl (sk310 hS) (sn310 hS) ?_
  obtain ⟨I1, hh5, h⟩ := obi h
  have hJ : Wp RX11 cX11_right 3 (some .boolean) [] hF d 0 0 16 [(0, .ref 310)] [] S I1 J (qE (.inl (some (.int r.1))) S r.2 J) := by
    refine wp_aload_n dX11_right_16 rfl rfl ?_
    refine wp_getI dX11_right_17 flX11_96 rfl (sk310 hS) (sn310 hS) ?_
    refine wp_if_ne (tgt := 27) dX11_right_20 (by decide) (fun hc4 => ?_) (fun hc4 => ?_)
    · have h := ite_f hc4 h
      refine wp_iconst (v := 0) dX11_right_27 (by decide) ?_
      exact wp_zret dX11_right_28 rfl (by decide) (by obtain rfl := sji h; exact ⟨rfl, rfl, rfl, rfl⟩)
    · have h := ite_t hc4 h
      refine wp_iconst (v := 1) dX11_right_23 (by decide) ?_
      refine wp_goto (tgt := 28) dX11_right_24 (by decide) ?_
      exact wp_zret dX11_right_28 rfl (by decide) (by obtain rfl := sji h; exact ⟨rfl, rfl, rfl, rfl⟩)
  clear h
  have h := hh5
  clear hh5
  refine wp_if_ne (tgt := 16) dX11_right_4 (by decide) (fun hc2 => ?_) (fun hc2 => ?_)
  · have h := ite_f hc2 h
    cases h
    exact wp_pick (ks := [0]) rfl hJ
  · have h := ite_t hc2 h
    refine wp_iload_n dX11_right_7 rfl rfl ?_
    refine wp_if_ne (tgt := 16) dX11_right_8 (by decide) (fun hc3 => ?_) (fun hc3 => ?_)
    · have h := ite_f hc3 h
      cases h
      exact wp_pick (ks := [0]) rfl hJ
    · have h := ite_t hc3 h
      refine wp_aload_n dX11_right_11 rfl rfl ?_
      refine wp_iload_n dX11_right_12 rfl rfl ?_
      refine wp_putI dX11_right_13 (Or.inl fpX11_96) rfl ⟨rfl, rfl⟩ (sk310 hS) (sn310 hS) ?_
      cases h
      exact wp_pick (ks := [0]) rfl hJ
def mX11_within (a1 : Int32) (a2 : Int32) (a3 : Int32) (I : gI) : Option (Int32) := if a1 < a2 then (some 0) else (if a3 < a1 then (some 0) else (some 1))
set_option maxHeartbeats 4000000 in
set_option maxRecDepth 100000 in
theorem ct_X11_within (d : Nat) (hd : 0 ≤ d) {S : gS} {J : gJ} (hS : Sh S)  {a1 : Int32} {a2 : Int32} {a3 : Int32} {I : gI} {r : Int32} (h : mX11_within a1 a2 a3 I = some r) : Ct yX11_within (wsY yX11_within cX11_within 3 (some .boolean)) d 0 0 [.int a1, .int a2, .int a3] S I J (qE (.inl (some (.int r))) S I J) := by
  refine Ct.of hF (fun _ _ _ _ _ => trivial) (by decide +kernel) (Nat.le_of_ble_eq_true rfl) ⟨trivial, trivial, trivial, trivial⟩ ?_
  show Wp RX11 cX11_within 3 (some .boolean) [] hF d 0 0 0 [(0, .int a1), (1, .int a2), (2, .int a3)] [] S I J _
  unfold mX11_within at h
  refine wp_iload_n dX11_within_0 rfl rfl ?_
  refine wp_iload_n dX11_within_1 rfl rfl ?_
  refine wp_icmp_lt (tgt := 14) dX11_within_2 (by decide) (fun hc1 => ?_) (fun hc1 => ?_)
  · have h := ite_t hc1 h
    refine wp_iconst (v := 0) dX11_within_14 (by decide) ?_
    exact wp_zret dX11_within_15 rfl (by decide) (by obtain rfl := sji h; exact ⟨rfl, rfl, rfl, rfl⟩)
  · have h := ite_f hc1 h
    refine wp_iload_n dX11_within_5 rfl rfl ?_
    refine wp_iload_n dX11_within_6 rfl rfl ?_
    refine wp_icmp_gt (tgt := 14) dX11_within_7 (by decide) (fun hc2 => ?_) (fun hc2 => ?_)
    · have h := ite_t hc2 h
      refine wp_iconst (v := 0) dX11_within_14 (by decide) ?_
      exact wp_zret dX11_within_15 rfl (by decide) (by obtain rfl := sji h; exact ⟨rfl, rfl, rfl, rfl⟩)
    · have h := ite_f hc2 h
      refine wp_iconst (v := 1) dX11_within_10 (by decide) ?_
      refine wp_goto (tgt := 15) dX11_within_11 (by decide) ?_
      exact wp_zret dX11_within_15 rfl (by decide) (by obtain rfl := sji h; exact ⟨rfl, rfl, rfl, rfl⟩)
def mX11_lesser (a1 : Int32) (a2 : Int32) (I : gI) : Option (Int32) := if a2 ≤ a1 then (some a2) else (some a1)
set_option maxHeartbeats 4000000 in
set_option maxRecDepth 100000 in
theorem ct_X11_lesser (d : Nat) (hd : 0 ≤ d) {S : gS} {J : gJ} (hS : Sh S)  {a1 : Int32} {a2 : Int32} {I : gI} {r : Int32} (h : mX11_lesser a1 a2 I = some r) : Ct yX11_lesser (wsY yX11_lesser cX11_lesser 2 (some .int)) d 0 0 [.int a1, .int a2] S I J (qE (.inl (some (.int r))) S I J) := by
  refine Ct.of hF (fun _ _ _ _ _ => trivial) (by decide +kernel) (Nat.le_of_ble_eq_true rfl) ⟨trivial, trivial, trivial⟩ ?_
  show Wp RX11 cX11_lesser 2 (some .int) [] hF d 0 0 0 [(0, .int a1), (1, .int a2)] [] S I J _
  unfold mX11_lesser at h
  refine wp_iload_n dX11_lesser_0 rfl rfl ?_
  refine wp_iload_n dX11_lesser_1 rfl rfl ?_
  refine wp_icmp_ge (tgt := 9) dX11_lesser_2 (by decide) (fun hc1 => ?_) (fun hc1 => ?_)
  · have h := ite_t hc1 h
    refine wp_iload_n dX11_lesser_9 rfl rfl ?_
    exact wp_iret dX11_lesser_10 rfl (by obtain rfl := sji h; exact ⟨rfl, rfl, rfl, rfl⟩)
  · have h := ite_f hc1 h
    refine wp_iload_n dX11_lesser_5 rfl rfl ?_
    refine wp_goto (tgt := 10) dX11_lesser_6 (by decide) ?_
    exact wp_iret dX11_lesser_10 rfl (by obtain rfl := sji h; exact ⟨rfl, rfl, rfl, rfl⟩)
def mX11_bits_4 (k0 : Int32) (I : gI) : Nat → Int32 → Int32 → Option (Int32)
  | 0, _, _ => none
  | n + 1, v1, v2 => if 16 ≤ v2 then (some v1) else (mX11_bits_4 k0 I n (v1 + ((k0 >>> (v2 &&& 31)) &&& 1)) (v2 + 1))
def mX11_bits (N : Nat) (a1 : Int32) (I : gI) : Option (Int32) := Option.bind (mX11_bits_4 a1 I N 0 0) (fun y2 => some y2)
set_option maxHeartbeats 4000000 in
set_option maxRecDepth 100000 in
theorem wX11_bits_4 (d : Nat) (hd : 0 ≤ d) {S : gS} {J : gJ} (hS : Sh S)  (k0 : Int32) (I : gI) {Q : gO → gS → gI → gJ → Prop} :
    ∀ (n : Nat) (v1 : Int32) (v2 : Int32) (res : Int32), mX11_bits_4 k0 I n v1 v2 = some res → (∀ (o1 : Int32), res = o1 → Wp RX11 cX11_bits 3 (some .int) [] hF d 0 0 24 [(1, .int o1)] [] S I J Q) → Wp RX11 cX11_bits 3 (some .int) [] hF d 0 0 4 [(0, .int k0), (1, .int v1), (2, .int v2)] [] S I J Q := by
  intro n
  induction n with
  | zero => intro v1 v2 res h; exact nso h
  | succ n ih =>
    intro v1 v2 res h kx
    rw [mX11_bits_4] at h
    refine wp_iload_n dX11_bits_4 rfl rfl ?_
    refine wp_bipush (v := 16) dX11_bits_5 (by decide) ?_
    refine wp_icmp_ge (tgt := 24) dX11_bits_7 (by decide) (fun hc1 => ?_) (fun hc1 => ?_)
    · have h := ite_t hc1 h
      exact wp_pick (ks := [1]) rfl (kx _ (sji h).symm)
    · have h := ite_f hc1 h
      refine wp_iload_n dX11_bits_10 rfl rfl ?_
      refine wp_iload_n dX11_bits_11 rfl rfl ?_
      refine wp_iload_n dX11_bits_12 rfl rfl ?_
      refine wp_ishr dX11_bits_13 ?_
      refine wp_iconst (v := 1) dX11_bits_14 (by decide) ?_
      refine wp_iand dX11_bits_15 ?_
      refine wp_iadd dX11_bits_16 ?_
      refine wp_istore_n (ls' := [(1, .int (v1 + ((k0 >>> (v2 &&& 31)) &&& 1))), (0, .int k0), (2, .int v2)]) dX11_bits_17 rfl (Nat.le_of_ble_eq_true rfl) rfl ?_
      refine wp_iinc (v := 1) (ls' := [(2, .int (v2 + 1)), (1, .int (v1 + ((k0 >>> (v2 &&& 31)) &&& 1))), (0, .int k0)]) dX11_bits_18 rfl (by decide) (Nat.le_of_ble_eq_true rfl) rfl ?_
      refine wp_goto (tgt := 4) dX11_bits_21 (by decide) ?_
      exact wp_pick (ks := [2, 1, 0]) rfl (ih _ _ _ h kx)
set_option maxHeartbeats 4000000 in
set_option maxRecDepth 100000 in
theorem ct_X11_bits (N : Nat) (d : Nat) (hd : 0 ≤ d) {S : gS} {J : gJ} (hS : Sh S)  {a1 : Int32} {I : gI} {r : Int32} (h : mX11_bits N a1 I = some r) : Ct yX11_bits (wsY yX11_bits cX11_bits 3 (some .int)) d 0 0 [.int a1] S I J (qE (.inl (some (.int r))) S I J) := by
  refine Ct.of hF (fun _ _ _ _ _ => trivial) (by decide +kernel) (Nat.le_of_ble_eq_true rfl) ⟨trivial, trivial⟩ ?_
  show Wp RX11 cX11_bits 3 (some .int) [] hF d 0 0 0 [(0, .int a1)] [] S I J _
  unfold mX11_bits at h
  refine wp_iconst (v := 0) dX11_bits_0 (by decide) ?_
  refine wp_istore_n (ls' := [(1, .int 0), (0, .int a1)]) dX11_bits_1 rfl (Nat.le_of_ble_eq_true rfl) rfl ?_
  refine wp_iconst (v := 0) dX11_bits_2 (by decide) ?_
  refine wp_istore_n (ls' := [(2, .int 0), (1, .int 0), (0, .int a1)]) dX11_bits_3 rfl (Nat.le_of_ble_eq_true rfl) rfl ?_
  obtain ⟨y2, hL93, h⟩ := obi h
  refine wp_pick (ks := [2, 1, 0]) rfl (wX11_bits_4 d hd hS  a1 I N 0 0 _ hL93 (fun _ e4 => ?_))
  cases e4
  refine wp_iload_n dX11_bits_24 rfl rfl ?_
  exact wp_iret dX11_bits_25 rfl (by obtain rfl := sji h; exact ⟨rfl, rfl, rfl, rfl⟩)
def mX11_lays_3 (k1 : Int32) : Nat → Int32 → gI → Option (gI)
  | 0, _, _ => none
  | n + 1, v2, I => if v2 < 0 then (some I) else (ck (I 310 2) 700 (nm ((upd2 I 311 (I 310 2).toNatClampNeg ((k1 >>> (v2 &&& 31)) &&& 255)) 310 2) (fun x3 => nm (upd2 (upd2 I 311 (I 310 2).toNatClampNeg ((k1 >>> (v2 &&& 31)) &&& 255)) 310 2 (x3 + 1)) (fun I5 => mX11_lays_3 k1 n (v2 + (-8)) I5))))
def mX11_lays (N : Nat) (a2 : Int32) (I : gI) : Option (gI) := Option.bind (mX11_lays_3 a2 N 24 I) (fun I7 => some I7)
set_option maxHeartbeats 4000000 in
set_option maxRecDepth 100000 in
theorem wX11_lays_3 (d : Nat) (hd : 0 ≤ d) {S : gS} {J : gJ} (hS : Sh S)  (k1 : Int32) {Q : gO → gS → gI → gJ → Prop} :
    ∀ (n : Nat) (v2 : Int32) (I : gI) (res : gI), mX11_lays_3 k1 n v2 I = some res → (∀ (O : gI), res = O → Wp RX11 cX11_lays 3 none [] hF d 0 0 39 [] [] S O J Q) → Wp RX11 cX11_lays 3 none [] hF d 0 0 3 [(0, .ref 310), (1, .int k1), (2, .int v2)] [] S I J Q := by
  intro n
  induction n with
  | zero => intro v2 I res h; exact nso h
  | succ n ih =>
    intro v2 I res h kx
    rw [mX11_lays_3] at h
    refine wp_iload_n dX11_lays_3 rfl rfl ?_
    refine wp_if_lt (tgt := 39) dX11_lays_4 (by decide) (fun hc1 => ?_) (fun hc1 => ?_)
    · have h := ite_t hc1 h
      exact wp_pick (ks := []) rfl (kx _ (sji h).symm)
    · have h := ite_f hc1 h
      refine wp_aload_n dX11_lays_7 rfl rfl ?_
      refine wp_getR dX11_lays_8 flX11_7 rfl (sk310 hS) (sn310 hS) (sr310_1 hS) ?_
      refine wp_aload_n dX11_lays_11 rfl rfl ?_
      refine wp_getI dX11_lays_12 flX11_99 rfl (sk310 hS) (sn310 hS) ?_
      refine wp_iload_n dX11_lays_15 rfl rfl ?_
      refine wp_iload_n dX11_lays_16 rfl rfl ?_
      refine wp_ishr dX11_lays_17 ?_
      refine wp_sipush (v := 255) dX11_lays_18 (by decide) ?_
      refine wp_iand dX11_lays_21 ?_
      obtain ⟨hb2, h⟩ := ck_inv h
      refine wp_iast dX11_lays_22 (sk311 hS) (sn311 hS) hb2 ?_
      refine wp_aload_n dX11_lays_23 rfl rfl ?_
      refine wp_dup dX11_lays_24 rfl ?_
      refine wp_getI dX11_lays_25 flX11_99 rfl (sk310 hS) (sn310 hS) ?_
      obtain ⟨x3, hx4, h⟩ := nm_inv h
      refine wp_topi hx4 ?_
      refine wp_iconst (v := 1) dX11_lays_28 (by decide) ?_
      refine wp_iadd dX11_lays_29 ?_
      refine wp_putI dX11_lays_30 (Or.inl fpX11_99) rfl ⟨rfl, rfl⟩ (sk310 hS) (sn310 hS) ?_
      obtain ⟨I5, hx6, h⟩ := nm_inv h
      refine wp_nmI hx6 ?_
      refine wp_iinc (v := (-8)) (ls' := [(2, .int (v2 + (-8))), (0, .ref 310), (1, .int k1)]) dX11_lays_33 rfl (by decide) (Nat.le_of_ble_eq_true rfl) rfl ?_
      refine wp_goto (tgt := 3) dX11_lays_36 (by decide) ?_
      exact wp_pick (ks := [1, 2, 0]) rfl (ih _ _ _ h kx)
set_option maxHeartbeats 4000000 in
set_option maxRecDepth 100000 in
theorem ct_X11_lays (N : Nat) (d : Nat) (hd : 0 ≤ d) {S : gS} {J : gJ} (hS : Sh S)  {a2 : Int32} {I : gI} {r : gI} (h : mX11_lays N a2 I = some r) : Ct yX11_lays (wsY yX11_lays cX11_lays 3 none) d 0 0 [.ref 310, .int a2] S I J (qE (.inl none) S r J) := by
  refine Ct.of hF (fun _ _ _ _ _ => trivial) (by decide +kernel) (Nat.le_of_ble_eq_true rfl) ⟨Or.inl (sn310 hS), trivial, trivial⟩ ?_
  show Wp RX11 cX11_lays 3 none [] hF d 0 0 0 [(0, .ref 310), (1, .int a2)] [] S I J _
  unfold mX11_lays at h
  refine wp_bipush (v := 24) dX11_lays_0 (by decide) ?_
  refine wp_istore_n (ls' := [(2, .int 24), (0, .ref 310), (1, .int a2)]) dX11_lays_2 rfl (Nat.le_of_ble_eq_true rfl) rfl ?_
  obtain ⟨I7, hL98, h⟩ := obi h
  refine wp_pick (ks := [1, 2, 0]) rfl (wX11_lays_3 d hd hS  a2 N 24 I _ hL98 (fun _ e9 => ?_))
  cases e9
  exact wp_vret dX11_lays_39 rfl (by obtain rfl := sji h; exact ⟨rfl, rfl, rfl, rfl⟩)
def mX11_feed (N : Nat) (a2 : Int32) (a3 : Int32) (a4 : Int32) (a5 : Int32) (a6 : Int32) (I : gI) : Option (Int32 × gI) := if (((upd2 I 310 0 0) 310 2) + 20) ≤ 700 then (Option.bind (mX11_lays N a2 (upd2 I 310 0 0)) (fun I2 => Option.bind (mX11_lays N a3 I2) (fun I4 => Option.bind (mX11_lays N a4 I4) (fun I6 => Option.bind (mX11_lays N a5 I6) (fun I8 => Option.bind (mX11_lays N a6 I8) (fun I10 => some (I10 310 2, I10))))))) else (some ((-1), upd2 I 310 0 0))
set_option maxHeartbeats 4000000 in
set_option maxRecDepth 100000 in
theorem ct_X11_feed (N : Nat) (d : Nat) (hd : 1 ≤ d) {S : gS} {J : gJ} (hS : Sh S)  {a2 : Int32} {a3 : Int32} {a4 : Int32} {a5 : Int32} {a6 : Int32} {I : gI} {r : Int32 × gI} (h : mX11_feed N a2 a3 a4 a5 a6 I = some r) : Ct yX11_feed (wsY yX11_feed cX11_feed 6 (some .int)) d 0 0 [.ref 310, .int a2, .int a3, .int a4, .int a5, .int a6] S I J (qE (.inl (some (.int r.1))) S r.2 J) := by
  refine Ct.of hF (fun _ _ _ _ _ => trivial) (by decide +kernel) (Nat.le_of_ble_eq_true rfl) ⟨Or.inl (sn310 hS), trivial, trivial, trivial, trivial, trivial, trivial⟩ ?_
  show Wp RX11 cX11_feed 6 (some .int) [] hF d 0 0 0 [(0, .ref 310), (1, .int a2), (2, .int a3), (3, .int a4), (4, .int a5), (5, .int a6)] [] S I J _
  unfold mX11_feed at h
  refine wp_aload_n dX11_feed_0 rfl rfl ?_
  refine wp_iconst (v := 0) dX11_feed_1 (by decide) ?_
  refine wp_putI dX11_feed_2 (Or.inl fpX11_96) rfl ⟨rfl, rfl⟩ (sk310 hS) (sn310 hS) ?_
  refine wp_aload_n dX11_feed_5 rfl rfl ?_
  refine wp_getI dX11_feed_6 flX11_99 rfl (sk310 hS) (sn310 hS) ?_
  refine wp_bipush (v := 20) dX11_feed_9 (by decide) ?_
  refine wp_iadd dX11_feed_11 ?_
  refine wp_sipush (v := 700) dX11_feed_12 (by decide) ?_
  refine wp_icmp_le (tgt := 20) dX11_feed_15 (by decide) (fun hc1 => ?_) (fun hc1 => ?_)
  · have h := ite_t hc1 h
    refine wp_aload_n dX11_feed_20 rfl rfl ?_
    refine wp_iload_n dX11_feed_21 rfl rfl ?_
    obtain ⟨I2, hF3, h⟩ := obi h
    refine wp_callVv (ci := 11) (As := [.int a2]) dX11_feed_22 lbX11_lays mlX11_102 imX11_lays seX11_lays vc11 (ct_X11_lays N 0 (Nat.le_refl _) hS  hF3) rfl rfl (Nat.le_trans (by decide) hd) (sk310 hS) (sn310 hS) (Nat.le_of_ble_eq_true rfl) (fun _ => ?_)
    refine wp_aload_n dX11_feed_25 rfl rfl ?_
    refine wp_iload_n dX11_feed_26 rfl rfl ?_
    obtain ⟨I4, hF5, h⟩ := obi h
    refine wp_callVv (ci := 11) (As := [.int a3]) dX11_feed_27 lbX11_lays mlX11_102 imX11_lays seX11_lays vc11 (ct_X11_lays N 0 (Nat.le_refl _) hS  hF5) rfl rfl (Nat.le_trans (by decide) hd) (sk310 hS) (sn310 hS) (Nat.le_of_ble_eq_true rfl) (fun _ => ?_)
    refine wp_aload_n dX11_feed_30 rfl rfl ?_
    refine wp_iload_n dX11_feed_31 rfl rfl ?_
    obtain ⟨I6, hF7, h⟩ := obi h
    refine wp_callVv (ci := 11) (As := [.int a4]) dX11_feed_32 lbX11_lays mlX11_102 imX11_lays seX11_lays vc11 (ct_X11_lays N 0 (Nat.le_refl _) hS  hF7) rfl rfl (Nat.le_trans (by decide) hd) (sk310 hS) (sn310 hS) (Nat.le_of_ble_eq_true rfl) (fun _ => ?_)
    refine wp_aload_n dX11_feed_35 rfl rfl ?_
    refine wp_iload dX11_feed_36 rfl ?_
    obtain ⟨I8, hF9, h⟩ := obi h
    refine wp_callVv (ci := 11) (As := [.int a5]) dX11_feed_38 lbX11_lays mlX11_102 imX11_lays seX11_lays vc11 (ct_X11_lays N 0 (Nat.le_refl _) hS  hF9) rfl rfl (Nat.le_trans (by decide) hd) (sk310 hS) (sn310 hS) (Nat.le_of_ble_eq_true rfl) (fun _ => ?_)
    refine wp_aload_n dX11_feed_41 rfl rfl ?_
    refine wp_iload dX11_feed_42 rfl ?_
    obtain ⟨I10, hF11, h⟩ := obi h
    refine wp_callVv (ci := 11) (As := [.int a6]) dX11_feed_44 lbX11_lays mlX11_102 imX11_lays seX11_lays vc11 (ct_X11_lays N 0 (Nat.le_refl _) hS  hF11) rfl rfl (Nat.le_trans (by decide) hd) (sk310 hS) (sn310 hS) (Nat.le_of_ble_eq_true rfl) (fun _ => ?_)
    refine wp_aload_n dX11_feed_47 rfl rfl ?_
    refine wp_getI dX11_feed_48 flX11_99 rfl (sk310 hS) (sn310 hS) ?_
    exact wp_iret dX11_feed_51 rfl (by obtain rfl := sji h; exact ⟨rfl, rfl, rfl, rfl⟩)
  · have h := ite_f hc1 h
    refine wp_iconst (v := (-1)) dX11_feed_18 (by decide) ?_
    exact wp_iret dX11_feed_19 rfl (by obtain rfl := sji h; exact ⟨rfl, rfl, rfl, rfl⟩)
def mX11_byteAt (a2 : Int32) (I : gI) : Option (Int32) := if (I 310 6) ≤ a2 then (some 0) else (ck a2 700 (some (I 311 a2.toNatClampNeg)))
set_option maxHeartbeats 4000000 in
set_option maxRecDepth 100000 in
theorem ct_X11_byteAt (d : Nat) (hd : 0 ≤ d) {S : gS} {J : gJ} (hS : Sh S)  {a2 : Int32} {I : gI} {r : Int32} (h : mX11_byteAt a2 I = some r) : Ct yX11_byteAt (wsY yX11_byteAt cX11_byteAt 2 (some .int)) d 0 0 [.ref 310, .int a2] S I J (qE (.inl (some (.int r))) S I J) := by
  refine Ct.of hF (fun _ _ _ _ _ => trivial) (by decide +kernel) (Nat.le_of_ble_eq_true rfl) ⟨Or.inl (sn310 hS), trivial, trivial⟩ ?_
  show Wp RX11 cX11_byteAt 2 (some .int) [] hF d 0 0 0 [(0, .ref 310), (1, .int a2)] [] S I J _
  unfold mX11_byteAt at h
  refine wp_iload_n dX11_byteAt_0 rfl rfl ?_
  refine wp_aload_n dX11_byteAt_1 rfl rfl ?_
  refine wp_getI dX11_byteAt_2 flX11_106 rfl (sk310 hS) (sn310 hS) ?_
  refine wp_icmp_ge (tgt := 17) dX11_byteAt_5 (by decide) (fun hc1 => ?_) (fun hc1 => ?_)
  · have h := ite_t hc1 h
    refine wp_iconst (v := 0) dX11_byteAt_17 (by decide) ?_
    exact wp_iret dX11_byteAt_18 rfl (by obtain rfl := sji h; exact ⟨rfl, rfl, rfl, rfl⟩)
  · have h := ite_f hc1 h
    refine wp_aload_n dX11_byteAt_8 rfl rfl ?_
    refine wp_getR dX11_byteAt_9 flX11_7 rfl (sk310 hS) (sn310 hS) (sr310_1 hS) ?_
    refine wp_iload_n dX11_byteAt_12 rfl rfl ?_
    obtain ⟨hb2, h⟩ := ck_inv h
    refine wp_iald dX11_byteAt_13 (sk311 hS) (sn311 hS) hb2 ?_
    refine wp_goto (tgt := 18) dX11_byteAt_14 (by decide) ?_
    exact wp_iret dX11_byteAt_18 rfl (by obtain rfl := sji h; exact ⟨rfl, rfl, rfl, rfl⟩)
def mX11_isLetter (a1 : Int32) (I : gI) : Option (Int32) := if a1 < 97 then (some 0) else (if 122 < a1 then (some 0) else (some 1))
set_option maxHeartbeats 4000000 in
set_option maxRecDepth 100000 in
theorem ct_X11_isLetter (d : Nat) (hd : 0 ≤ d) {S : gS} {J : gJ} (hS : Sh S)  {a1 : Int32} {I : gI} {r : Int32} (h : mX11_isLetter a1 I = some r) : Ct yX11_isLetter (wsY yX11_isLetter cX11_isLetter 1 (some .boolean)) d 0 0 [.int a1] S I J (qE (.inl (some (.int r))) S I J) := by
  refine Ct.of hF (fun _ _ _ _ _ => trivial) (by decide +kernel) (Nat.le_of_ble_eq_true rfl) ⟨trivial, trivial⟩ ?_
  show Wp RX11 cX11_isLetter 1 (some .boolean) [] hF d 0 0 0 [(0, .int a1)] [] S I J _
  unfold mX11_isLetter at h
  refine wp_iload_n dX11_isLetter_0 rfl rfl ?_
  refine wp_bipush (v := 97) dX11_isLetter_1 (by decide) ?_
  refine wp_icmp_lt (tgt := 16) dX11_isLetter_3 (by decide) (fun hc1 => ?_) (fun hc1 => ?_)
  · have h := ite_t hc1 h
    refine wp_iconst (v := 0) dX11_isLetter_16 (by decide) ?_
    exact wp_zret dX11_isLetter_17 rfl (by decide) (by obtain rfl := sji h; exact ⟨rfl, rfl, rfl, rfl⟩)
  · have h := ite_f hc1 h
    refine wp_iload_n dX11_isLetter_6 rfl rfl ?_
    refine wp_bipush (v := 122) dX11_isLetter_7 (by decide) ?_
    refine wp_icmp_gt (tgt := 16) dX11_isLetter_9 (by decide) (fun hc2 => ?_) (fun hc2 => ?_)
    · have h := ite_t hc2 h
      refine wp_iconst (v := 0) dX11_isLetter_16 (by decide) ?_
      exact wp_zret dX11_isLetter_17 rfl (by decide) (by obtain rfl := sji h; exact ⟨rfl, rfl, rfl, rfl⟩)
    · have h := ite_f hc2 h
      refine wp_iconst (v := 1) dX11_isLetter_12 (by decide) ?_
      refine wp_goto (tgt := 17) dX11_isLetter_13 (by decide) ?_
      exact wp_zret dX11_isLetter_17 rfl (by decide) (by obtain rfl := sji h; exact ⟨rfl, rfl, rfl, rfl⟩)
def mX11_isDigit (a1 : Int32) (I : gI) : Option (Int32) := if a1 < 48 then (some 0) else (if 57 < a1 then (some 0) else (some 1))
set_option maxHeartbeats 4000000 in
set_option maxRecDepth 100000 in
theorem ct_X11_isDigit (d : Nat) (hd : 0 ≤ d) {S : gS} {J : gJ} (hS : Sh S)  {a1 : Int32} {I : gI} {r : Int32} (h : mX11_isDigit a1 I = some r) : Ct yX11_isDigit (wsY yX11_isDigit cX11_isDigit 1 (some .boolean)) d 0 0 [.int a1] S I J (qE (.inl (some (.int r))) S I J) := by
  refine Ct.of hF (fun _ _ _ _ _ => trivial) (by decide +kernel) (Nat.le_of_ble_eq_true rfl) ⟨trivial, trivial⟩ ?_
  show Wp RX11 cX11_isDigit 1 (some .boolean) [] hF d 0 0 0 [(0, .int a1)] [] S I J _
  unfold mX11_isDigit at h
  refine wp_iload_n dX11_isDigit_0 rfl rfl ?_
  refine wp_bipush (v := 48) dX11_isDigit_1 (by decide) ?_
  refine wp_icmp_lt (tgt := 16) dX11_isDigit_3 (by decide) (fun hc1 => ?_) (fun hc1 => ?_)
  · have h := ite_t hc1 h
    refine wp_iconst (v := 0) dX11_isDigit_16 (by decide) ?_
    exact wp_zret dX11_isDigit_17 rfl (by decide) (by obtain rfl := sji h; exact ⟨rfl, rfl, rfl, rfl⟩)
  · have h := ite_f hc1 h
    refine wp_iload_n dX11_isDigit_6 rfl rfl ?_
    refine wp_bipush (v := 57) dX11_isDigit_7 (by decide) ?_
    refine wp_icmp_gt (tgt := 16) dX11_isDigit_9 (by decide) (fun hc2 => ?_) (fun hc2 => ?_)
    · have h := ite_t hc2 h
      refine wp_iconst (v := 0) dX11_isDigit_16 (by decide) ?_
      exact wp_zret dX11_isDigit_17 rfl (by decide) (by obtain rfl := sji h; exact ⟨rfl, rfl, rfl, rfl⟩)
    · have h := ite_f hc2 h
      refine wp_iconst (v := 1) dX11_isDigit_12 (by decide) ?_
      refine wp_goto (tgt := 17) dX11_isDigit_13 (by decide) ?_
      exact wp_zret dX11_isDigit_17 rfl (by decide) (by obtain rfl := sji h; exact ⟨rfl, rfl, rfl, rfl⟩)
def mX11_goes_0 (J : gJ) : Nat → gI → Option (gI)
  | 0, _ => none
  | n + 1, I => if (I 310 6) ≤ (I 310 7) then (some I) else (Option.bind (mX11_byteAt (I 310 7) I) (fun r2 => if r2 = 32 then (mX11_goes_0 J n (upd2 I 310 7 ((I 310 7) + 1))) else (Option.bind (mX11_byteAt (I 310 7) I) (fun r5 => if r5 = 10 then (mX11_goes_0 J n (upd2 I 310 7 ((I 310 7) + 1))) else (some I)))))
def mX11_goes_182 (J : gJ) : Nat → gI → Option (gI)
  | 0, _ => none
  | n + 1, I => Option.bind (mX11_byteAt (I 310 7) I) (fun r25 => Option.bind (mX11_isDigit r25 I) (fun r27 => if r27 = 0 then (some I) else (if 4 ≤ ((I 310 7) - (I 310 9)) then (mX11_goes_182 J n (upd2 I 310 7 ((I 310 7) + 1))) else (Option.bind (mX11_byteAt (I 310 7) I) (fun r31 => nm (((upd2 I 310 11 (((10 * (I 310 11)) + r31) - 48)) 310 7) + 1) (fun x33 => mX11_goes_182 J n (upd2 (upd2 I 310 11 (((10 * (I 310 11)) + r31) - 48)) 310 7 x33)))))))
def mX11_goes_103  : Nat → gI → gJ → Option (gI × gJ)
  | 0, _, _ => none
  | n + 1, I, J => Option.bind (mX11_byteAt (I 310 7) I) (fun r40 => Option.bind (mX11_isLetter r40 I) (fun r42 => if r42 = 0 then (some (I, J)) else (if 6 ≤ ((I 310 7) - (I 310 9)) then (mX11_goes_103 n (upd2 I 310 7 ((I 310 7) + 1)) J) else (Option.bind (mX11_byteAt (I 310 7) I) (fun r46 => nm (((J 310 12) <<< ((5 : Int32).toInt64 &&& 63)) ||| ((r46 - 96).toInt64)) (fun x48 => mX11_goes_103 n (upd2 I 310 7 ((I 310 7) + 1)) (updJ J 310 12 x48)))))))
def mX11_goes (N : Nat) (I : gI) (J : gJ) : Option (gI × gJ) := Option.bind (mX11_goes_0 J N I) (fun I8 => Option.bind (mX11_byteAt ((upd2 (upd2 I8 310 9 (I8 310 7)) 310 11 0) 310 7) (upd2 (upd2 I8 310 9 (I8 310 7)) 310 11 0)) (fun r9 => if ((upd2 (upd2 I8 310 9 (I8 310 7)) 310 11 0) 310 7) < ((upd2 (upd2 I8 310 9 (I8 310 7)) 310 11 0) 310 6) then (Option.bind (mX11_isLetter r9 (upd2 (upd2 I8 310 9 (I8 310 7)) 310 11 0)) (fun r12 => if r12 = 0 then (Option.bind (mX11_isDigit r9 (upd2 (upd2 I8 310 9 (I8 310 7)) 310 11 0)) (fun r15 => if r15 = 0 then (nm (upd2 (upd2 (upd2 I8 310 9 (I8 310 7)) 310 11 0) 310 7 (((upd2 (upd2 I8 310 9 (I8 310 7)) 310 11 0) 310 7) + 1)) (fun I18 => if r9 = 59 then (nm (upd2 (upd2 I18 310 8 3) 310 10 (((upd2 I18 310 8 3) 310 7) - ((upd2 I18 310 8 3) 310 9))) (fun I23 => some (I23, updJ J 310 12 0))) else (nm (upd2 (upd2 I18 310 8 4) 310 10 (((upd2 I18 310 8 4) 310 7) - ((upd2 I18 310 8 4) 310 9))) (fun I21 => some (I21, updJ J 310 12 0))))) else (Option.bind (mX11_goes_182 (updJ J 310 12 0) N (upd2 (upd2 I8 310 9 (I8 310 7)) 310 11 0)) (fun I35 => nm (upd2 (upd2 I35 310 8 2) 310 10 (((upd2 I35 310 8 2) 310 7) - ((upd2 I35 310 8 2) 310 9))) (fun I36 => some (I36, updJ J 310 12 0)))))) else (Option.bind (mX11_goes_103 N (upd2 (upd2 I8 310 9 (I8 310 7)) 310 11 0) (updJ J 310 12 0)) (fun (I50, J51) => nm (upd2 (upd2 I50 310 8 1) 310 10 (((upd2 I50 310 8 1) 310 7) - ((upd2 I50 310 8 1) 310 9))) (fun I52 => some (I52, J51)))))) else (nm ((upd2 (upd2 (upd2 I8 310 9 (I8 310 7)) 310 11 0) 310 8 0) 310 7) (fun x56 => nm ((upd2 (upd2 (upd2 I8 310 9 (I8 310 7)) 310 11 0) 310 8 0) 310 9) (fun x58 => nm (upd2 (upd2 (upd2 (upd2 I8 310 9 (I8 310 7)) 310 11 0) 310 8 0) 310 10 (x56 - x58)) (fun I60 => some (I60, updJ J 310 12 0)))))))
set_option maxHeartbeats 4000000 in
set_option maxRecDepth 100000 in
theorem wX11_goes_0 (d : Nat) (hd : 1 ≤ d) {S : gS} {J : gJ} (hS : Sh S)  {Q : gO → gS → gI → gJ → Prop} :
    ∀ (n : Nat)  (I : gI) (res : gI), mX11_goes_0 J n I = some res → (∀ (O : gI), res = O → Wp RX11 cX11_goes 2 none [] hF d 0 0 50 [(0, .ref 310)] [] S O J Q) → Wp RX11 cX11_goes 2 none [] hF d 0 0 0 [(0, .ref 310)] [] S I J Q := by
  intro n
  induction n with
  | zero => intro I res h; exact nso h
  | succ n ih =>
    intro I res h kx
    rw [mX11_goes_0] at h
    refine wp_aload_n dX11_goes_0 rfl rfl ?_
    refine wp_getI dX11_goes_1 flX11_109 rfl (sk310 hS) (sn310 hS) ?_
    refine wp_aload_n dX11_goes_4 rfl rfl ?_
    refine wp_getI dX11_goes_5 flX11_106 rfl (sk310 hS) (sn310 hS) ?_
    refine wp_icmp_ge (tgt := 50) dX11_goes_8 (by decide) (fun hc1 => ?_) (fun hc1 => ?_)
    · have h := ite_t hc1 h
      exact wp_pick (ks := [0]) rfl (kx _ (sji h).symm)
    · have h := ite_f hc1 h
      refine wp_aload_n dX11_goes_11 rfl rfl ?_
      refine wp_aload_n dX11_goes_12 rfl rfl ?_
      refine wp_getI dX11_goes_13 flX11_109 rfl (sk310 hS) (sn310 hS) ?_
      obtain ⟨r2, hF3, h⟩ := obi h
      refine wp_callVi (ci := 11) (As := [.int (I 310 7)]) dX11_goes_16 lbX11_byteAt mlX11_112 imX11_byteAt seX11_byteAt vc11 (ct_X11_byteAt 0 (Nat.le_refl _) hS  hF3) rfl rfl (Nat.le_trans (by decide) hd) (sk310 hS) (sn310 hS) (Nat.le_of_ble_eq_true rfl) (fun _ => ?_)
      refine wp_bipush (v := 32) dX11_goes_19 (by decide) ?_
      refine wp_icmp_eq (tgt := 37) dX11_goes_21 (by decide) (fun hc4 => ?_) (fun hc4 => ?_)
      · have h := ite_t hc4 h
        refine wp_aload_n dX11_goes_37 rfl rfl ?_
        refine wp_dup dX11_goes_38 rfl ?_
        refine wp_getI dX11_goes_39 flX11_109 rfl (sk310 hS) (sn310 hS) ?_
        refine wp_iconst (v := 1) dX11_goes_42 (by decide) ?_
        refine wp_iadd dX11_goes_43 ?_
        refine wp_putI dX11_goes_44 (Or.inl fpX11_109) rfl ⟨rfl, rfl⟩ (sk310 hS) (sn310 hS) ?_
        refine wp_goto (tgt := 0) dX11_goes_47 (by decide) ?_
        exact wp_pick (ks := [0]) rfl (ih _ _ h kx)
      · have h := ite_f hc4 h
        refine wp_aload_n dX11_goes_24 rfl rfl ?_
        refine wp_aload_n dX11_goes_25 rfl rfl ?_
        refine wp_getI dX11_goes_26 flX11_109 rfl (sk310 hS) (sn310 hS) ?_
        obtain ⟨r5, hF6, h⟩ := obi h
        refine wp_callVi (ci := 11) (As := [.int (I 310 7)]) dX11_goes_29 lbX11_byteAt mlX11_112 imX11_byteAt seX11_byteAt vc11 (ct_X11_byteAt 0 (Nat.le_refl _) hS  hF6) rfl rfl (Nat.le_trans (by decide) hd) (sk310 hS) (sn310 hS) (Nat.le_of_ble_eq_true rfl) (fun _ => ?_)
        refine wp_bipush (v := 10) dX11_goes_32 (by decide) ?_
        refine wp_icmp_ne (tgt := 50) dX11_goes_34 (by decide) (fun hc7 => ?_) (fun hc7 => ?_)
        · have h := ite_f hc7 h
          exact wp_pick (ks := [0]) rfl (kx _ (sji h).symm)
        · have h := ite_t hc7 h
          refine wp_aload_n dX11_goes_37 rfl rfl ?_
          refine wp_dup dX11_goes_38 rfl ?_
          refine wp_getI dX11_goes_39 flX11_109 rfl (sk310 hS) (sn310 hS) ?_
          refine wp_iconst (v := 1) dX11_goes_42 (by decide) ?_
          refine wp_iadd dX11_goes_43 ?_
          refine wp_putI dX11_goes_44 (Or.inl fpX11_109) rfl ⟨rfl, rfl⟩ (sk310 hS) (sn310 hS) ?_
          refine wp_goto (tgt := 0) dX11_goes_47 (by decide) ?_
          exact wp_pick (ks := [0]) rfl (ih _ _ h kx)
set_option maxHeartbeats 4000000 in
set_option maxRecDepth 100000 in
theorem wX11_goes_182 (d : Nat) (hd : 1 ≤ d) {S : gS} {J : gJ} (hS : Sh S)  {Q : gO → gS → gI → gJ → Prop} :
    ∀ (n : Nat)  (I : gI) (res : gI), mX11_goes_182 J n I = some res → (∀ (O : gI), res = O → Wp RX11 cX11_goes 2 none [] hF d 0 0 245 [(0, .ref 310)] [] S O J Q) → Wp RX11 cX11_goes 2 none [] hF d 0 0 182 [(0, .ref 310)] [] S I J Q := by
  intro n
  induction n with
  | zero => intro I res h; exact nso h
  | succ n ih =>
    intro I res h kx
    rw [mX11_goes_182] at h
    refine wp_aload_n dX11_goes_182 rfl rfl ?_
    refine wp_aload_n dX11_goes_183 rfl rfl ?_
    refine wp_getI dX11_goes_184 flX11_109 rfl (sk310 hS) (sn310 hS) ?_
    obtain ⟨r25, hF26, h⟩ := obi h
    refine wp_callVi (ci := 11) (As := [.int (I 310 7)]) dX11_goes_187 lbX11_byteAt mlX11_112 imX11_byteAt seX11_byteAt vc11 (ct_X11_byteAt 0 (Nat.le_refl _) hS  hF26) rfl rfl (Nat.le_trans (by decide) hd) (sk310 hS) (sn310 hS) (Nat.le_of_ble_eq_true rfl) (fun _ => ?_)
    obtain ⟨r27, hF28, h⟩ := obi h
    refine wp_callSi (As := [.int r25]) dX11_goes_190 lbX11_isDigit mlX11_133 smX11_isDigit (ct_X11_isDigit 0 (Nat.le_refl _) hS  hF28) rfl rfl (Nat.le_trans (by decide) hd) (Nat.le_of_ble_eq_true rfl) (fun _ => ?_)
    refine wp_if_eq (tgt := 245) dX11_goes_193 (by decide) (fun hc29 => ?_) (fun hc29 => ?_)
    · have h := ite_t hc29 h
      exact wp_pick (ks := [0]) rfl (kx _ (sji h).symm)
    · have h := ite_f hc29 h
      refine wp_aload_n dX11_goes_196 rfl rfl ?_
      refine wp_getI dX11_goes_197 flX11_109 rfl (sk310 hS) (sn310 hS) ?_
      refine wp_aload_n dX11_goes_200 rfl rfl ?_
      refine wp_getI dX11_goes_201 flX11_116 rfl (sk310 hS) (sn310 hS) ?_
      refine wp_isub dX11_goes_204 ?_
      refine wp_iconst (v := 4) dX11_goes_205 (by decide) ?_
      refine wp_icmp_ge (tgt := 232) dX11_goes_206 (by decide) (fun hc30 => ?_) (fun hc30 => ?_)
      · have h := ite_t hc30 h
        refine wp_aload_n dX11_goes_232 rfl rfl ?_
        refine wp_dup dX11_goes_233 rfl ?_
        refine wp_getI dX11_goes_234 flX11_109 rfl (sk310 hS) (sn310 hS) ?_
        refine wp_iconst (v := 1) dX11_goes_237 (by decide) ?_
        refine wp_iadd dX11_goes_238 ?_
        refine wp_putI dX11_goes_239 (Or.inl fpX11_109) rfl ⟨rfl, rfl⟩ (sk310 hS) (sn310 hS) ?_
        refine wp_goto (tgt := 182) dX11_goes_242 (by decide) ?_
        exact wp_pick (ks := [0]) rfl (ih _ _ h kx)
      · have h := ite_f hc30 h
        refine wp_aload_n dX11_goes_209 rfl rfl ?_
        refine wp_bipush (v := 10) dX11_goes_210 (by decide) ?_
        refine wp_aload_n dX11_goes_212 rfl rfl ?_
        refine wp_getI dX11_goes_213 flX11_123 rfl (sk310 hS) (sn310 hS) ?_
        refine wp_imul dX11_goes_216 ?_
        refine wp_aload_n dX11_goes_217 rfl rfl ?_
        refine wp_aload_n dX11_goes_218 rfl rfl ?_
        refine wp_getI dX11_goes_219 flX11_109 rfl (sk310 hS) (sn310 hS) ?_
        obtain ⟨r31, hF32, h⟩ := obi h
        refine wp_callVi (ci := 11) (As := [.int (I 310 7)]) dX11_goes_222 lbX11_byteAt mlX11_112 imX11_byteAt seX11_byteAt vc11 (ct_X11_byteAt 0 (Nat.le_refl _) hS  hF32) rfl rfl (Nat.le_trans (by decide) hd) (sk310 hS) (sn310 hS) (Nat.le_of_ble_eq_true rfl) (fun _ => ?_)
        refine wp_iadd dX11_goes_225 ?_
        refine wp_bipush (v := 48) dX11_goes_226 (by decide) ?_
        refine wp_isub dX11_goes_228 ?_
        refine wp_putI dX11_goes_229 (Or.inl fpX11_123) rfl ⟨rfl, rfl⟩ (sk310 hS) (sn310 hS) ?_
        refine wp_aload_n dX11_goes_232 rfl rfl ?_
        refine wp_dup dX11_goes_233 rfl ?_
        refine wp_getI dX11_goes_234 flX11_109 rfl (sk310 hS) (sn310 hS) ?_
        refine wp_iconst (v := 1) dX11_goes_237 (by decide) ?_
        refine wp_iadd dX11_goes_238 ?_
        obtain ⟨x33, hx34, h⟩ := nm_inv h
        refine wp_topi hx34 ?_
        refine wp_putI dX11_goes_239 (Or.inl fpX11_109) rfl ⟨rfl, rfl⟩ (sk310 hS) (sn310 hS) ?_
        refine wp_goto (tgt := 182) dX11_goes_242 (by decide) ?_
        exact wp_pick (ks := [0]) rfl (ih _ _ h kx)
set_option maxHeartbeats 4000000 in
set_option maxRecDepth 100000 in
theorem wX11_goes_103 (d : Nat) (hd : 1 ≤ d) {S : gS} (hS : Sh S)  {Q : gO → gS → gI → gJ → Prop} :
    ∀ (n : Nat)  (I : gI) (J : gJ) (res : gI × gJ), mX11_goes_103 n I J = some res → (∀ (O : gI) (P : gJ), res = (O, P) → Wp RX11 cX11_goes 2 none [] hF d 0 0 167 [(0, .ref 310)] [] S O P Q) → Wp RX11 cX11_goes 2 none [] hF d 0 0 103 [(0, .ref 310)] [] S I J Q := by
  intro n
  induction n with
  | zero => intro I J res h; exact nso h
  | succ n ih =>
    intro I J res h kx
    rw [mX11_goes_103] at h
    refine wp_aload_n dX11_goes_103 rfl rfl ?_
    refine wp_aload_n dX11_goes_104 rfl rfl ?_
    refine wp_getI dX11_goes_105 flX11_109 rfl (sk310 hS) (sn310 hS) ?_
    obtain ⟨r40, hF41, h⟩ := obi h
    refine wp_callVi (ci := 11) (As := [.int (I 310 7)]) dX11_goes_108 lbX11_byteAt mlX11_112 imX11_byteAt seX11_byteAt vc11 (ct_X11_byteAt 0 (Nat.le_refl _) hS  hF41) rfl rfl (Nat.le_trans (by decide) hd) (sk310 hS) (sn310 hS) (Nat.le_of_ble_eq_true rfl) (fun _ => ?_)
    obtain ⟨r42, hF43, h⟩ := obi h
    refine wp_callSi (As := [.int r40]) dX11_goes_111 lbX11_isLetter mlX11_129 smX11_isLetter (ct_X11_isLetter 0 (Nat.le_refl _) hS  hF43) rfl rfl (Nat.le_trans (by decide) hd) (Nat.le_of_ble_eq_true rfl) (fun _ => ?_)
    refine wp_if_eq (tgt := 167) dX11_goes_114 (by decide) (fun hc44 => ?_) (fun hc44 => ?_)
    · have h := ite_t hc44 h
      exact wp_pick (ks := [0]) rfl (kx _ _ (sji h).symm)
    · have h := ite_f hc44 h
      refine wp_aload_n dX11_goes_117 rfl rfl ?_
      refine wp_getI dX11_goes_118 flX11_109 rfl (sk310 hS) (sn310 hS) ?_
      refine wp_aload_n dX11_goes_121 rfl rfl ?_
      refine wp_getI dX11_goes_122 flX11_116 rfl (sk310 hS) (sn310 hS) ?_
      refine wp_isub dX11_goes_125 ?_
      refine wp_bipush (v := 6) dX11_goes_126 (by decide) ?_
      refine wp_icmp_ge (tgt := 154) dX11_goes_128 (by decide) (fun hc45 => ?_) (fun hc45 => ?_)
      · have h := ite_t hc45 h
        refine wp_aload_n dX11_goes_154 rfl rfl ?_
        refine wp_dup dX11_goes_155 rfl ?_
        refine wp_getI dX11_goes_156 flX11_109 rfl (sk310 hS) (sn310 hS) ?_
        refine wp_iconst (v := 1) dX11_goes_159 (by decide) ?_
        refine wp_iadd dX11_goes_160 ?_
        refine wp_putI dX11_goes_161 (Or.inl fpX11_109) rfl ⟨rfl, rfl⟩ (sk310 hS) (sn310 hS) ?_
        refine wp_goto (tgt := 103) dX11_goes_164 (by decide) ?_
        exact wp_pick (ks := [0]) rfl (ih _ _ _ h kx)
      · have h := ite_f hc45 h
        refine wp_aload_n dX11_goes_131 rfl rfl ?_
        refine wp_aload_n dX11_goes_132 rfl rfl ?_
        refine wp_getJ dX11_goes_133 flX11_119 rfl (sk310 hS) (sn310 hS) ?_
        refine wp_iconst (v := 5) dX11_goes_136 (by decide) ?_
        refine wp_lshl dX11_goes_137 ?_
        refine wp_aload_n dX11_goes_138 rfl rfl ?_
        refine wp_aload_n dX11_goes_139 rfl rfl ?_
        refine wp_getI dX11_goes_140 flX11_109 rfl (sk310 hS) (sn310 hS) ?_
        obtain ⟨r46, hF47, h⟩ := obi h
        refine wp_callVi (ci := 11) (As := [.int (I 310 7)]) dX11_goes_143 lbX11_byteAt mlX11_112 imX11_byteAt seX11_byteAt vc11 (ct_X11_byteAt 0 (Nat.le_refl _) hS  hF47) rfl rfl (Nat.le_trans (by decide) hd) (sk310 hS) (sn310 hS) (Nat.le_of_ble_eq_true rfl) (fun _ => ?_)
        refine wp_bipush (v := 96) dX11_goes_146 (by decide) ?_
        refine wp_isub dX11_goes_148 ?_
        refine wp_i2l dX11_goes_149 ?_
        refine wp_lor dX11_goes_150 ?_
        obtain ⟨x48, hx49, h⟩ := nm_inv h
        refine wp_topl hx49 ?_
        refine wp_putJ dX11_goes_151 (Or.inl fpX11_119) rfl ⟨rfl, rfl⟩ (sk310 hS) (sn310 hS) ?_
        refine wp_aload_n dX11_goes_154 rfl rfl ?_
        refine wp_dup dX11_goes_155 rfl ?_
        refine wp_getI dX11_goes_156 flX11_109 rfl (sk310 hS) (sn310 hS) ?_
        refine wp_iconst (v := 1) dX11_goes_159 (by decide) ?_
        refine wp_iadd dX11_goes_160 ?_
        refine wp_putI dX11_goes_161 (Or.inl fpX11_109) rfl ⟨rfl, rfl⟩ (sk310 hS) (sn310 hS) ?_
        refine wp_goto (tgt := 103) dX11_goes_164 (by decide) ?_
        exact wp_pick (ks := [0]) rfl (ih _ _ _ h kx)
set_option maxHeartbeats 4000000 in
set_option maxRecDepth 100000 in
theorem ct_X11_goes (N : Nat) (d : Nat) (hd : 1 ≤ d) {S : gS} {J : gJ} (hS : Sh S)  {I : gI} {r : gI × gJ} (h : mX11_goes N I J = some r) : Ct yX11_goes (wsY yX11_goes cX11_goes 2 none) d 0 0 [.ref 310] S I J (qE (.inl none) S r.1 r.2) := by
  refine Ct.of hF (fun _ _ _ _ _ => trivial) (by decide +kernel) (Nat.le_of_ble_eq_true rfl) ⟨Or.inl (sn310 hS), trivial⟩ ?_
  show Wp RX11 cX11_goes 2 none [] hF d 0 0 0 [(0, .ref 310)] [] S I J _
  unfold mX11_goes at h
  obtain ⟨I8, hL962, h⟩ := obi h
  refine wp_pick (ks := [0]) rfl (wX11_goes_0 d hd hS   N I _ hL962 (fun _ e63 => ?_))
  cases e63
  refine wp_aload_n dX11_goes_50 rfl rfl ?_
  refine wp_aload_n dX11_goes_51 rfl rfl ?_
  refine wp_getI dX11_goes_52 flX11_109 rfl (sk310 hS) (sn310 hS) ?_
  refine wp_putI dX11_goes_55 (Or.inl fpX11_116) rfl ⟨rfl, rfl⟩ (sk310 hS) (sn310 hS) ?_
  refine wp_aload_n dX11_goes_58 rfl rfl ?_
  refine wp_lconst (v := 0) dX11_goes_59 (by decide) ?_
  refine wp_putJ dX11_goes_60 (Or.inl fpX11_119) rfl ⟨rfl, rfl⟩ (sk310 hS) (sn310 hS) ?_
  refine wp_aload_n dX11_goes_63 rfl rfl ?_
  refine wp_iconst (v := 0) dX11_goes_64 (by decide) ?_
  refine wp_putI dX11_goes_65 (Or.inl fpX11_123) rfl ⟨rfl, rfl⟩ (sk310 hS) (sn310 hS) ?_
  refine wp_aload_n dX11_goes_68 rfl rfl ?_
  refine wp_aload_n dX11_goes_69 rfl rfl ?_
  refine wp_getI dX11_goes_70 flX11_109 rfl (sk310 hS) (sn310 hS) ?_
  obtain ⟨r9, hF10, h⟩ := obi h
  refine wp_callVi (ci := 11) (As := [.int ((upd2 (upd2 I8 310 9 (I8 310 7)) 310 11 0) 310 7)]) dX11_goes_73 lbX11_byteAt mlX11_112 imX11_byteAt seX11_byteAt vc11 (ct_X11_byteAt 0 (Nat.le_refl _) hS  hF10) rfl rfl (Nat.le_trans (by decide) hd) (sk310 hS) (sn310 hS) (Nat.le_of_ble_eq_true rfl) (fun _ => ?_)
  refine wp_istore_n (ls' := [(1, .int r9), (0, .ref 310)]) dX11_goes_76 rfl (Nat.le_of_ble_eq_true rfl) rfl ?_
  refine wp_aload_n dX11_goes_77 rfl rfl ?_
  refine wp_getI dX11_goes_78 flX11_109 rfl (sk310 hS) (sn310 hS) ?_
  refine wp_aload_n dX11_goes_81 rfl rfl ?_
  refine wp_getI dX11_goes_82 flX11_106 rfl (sk310 hS) (sn310 hS) ?_
  refine wp_icmp_lt (tgt := 96) dX11_goes_85 (by decide) (fun hc11 => ?_) (fun hc11 => ?_)
  · have h := ite_t hc11 h
    refine wp_iload_n dX11_goes_96 rfl rfl ?_
    obtain ⟨r12, hF13, h⟩ := obi h
    refine wp_callSi (As := [.int r9]) dX11_goes_97 lbX11_isLetter mlX11_129 smX11_isLetter (ct_X11_isLetter 0 (Nat.le_refl _) hS  hF13) rfl rfl (Nat.le_trans (by decide) hd) (Nat.le_of_ble_eq_true rfl) (fun _ => ?_)
    refine wp_if_eq (tgt := 175) dX11_goes_100 (by decide) (fun hc14 => ?_) (fun hc14 => ?_)
    · have h := ite_t hc14 h
      refine wp_iload_n dX11_goes_175 rfl rfl ?_
      obtain ⟨r15, hF16, h⟩ := obi h
      refine wp_callSi (As := [.int r9]) dX11_goes_176 lbX11_isDigit mlX11_133 smX11_isDigit (ct_X11_isDigit 0 (Nat.le_refl _) hS  hF16) rfl rfl (Nat.le_trans (by decide) hd) (Nat.le_of_ble_eq_true rfl) (fun _ => ?_)
      refine wp_if_eq (tgt := 253) dX11_goes_179 (by decide) (fun hc17 => ?_) (fun hc17 => ?_)
      · have h := ite_t hc17 h
        refine wp_aload_n dX11_goes_253 rfl rfl ?_
        refine wp_dup dX11_goes_254 rfl ?_
        refine wp_getI dX11_goes_255 flX11_109 rfl (sk310 hS) (sn310 hS) ?_
        refine wp_iconst (v := 1) dX11_goes_258 (by decide) ?_
        refine wp_iadd dX11_goes_259 ?_
        refine wp_putI dX11_goes_260 (Or.inl fpX11_109) rfl ⟨rfl, rfl⟩ (sk310 hS) (sn310 hS) ?_
        obtain ⟨I18, hx19, h⟩ := nm_inv h
        refine wp_nmI hx19 ?_
        refine wp_aload_n dX11_goes_263 rfl rfl ?_
        refine wp_iload_n dX11_goes_264 rfl rfl ?_
        refine wp_bipush (v := 59) dX11_goes_265 (by decide) ?_
        refine wp_icmp_ne (tgt := 274) dX11_goes_267 (by decide) (fun hc20 => ?_) (fun hc20 => ?_)
        · have h := ite_f hc20 h
          refine wp_iconst (v := 4) dX11_goes_274 (by decide) ?_
          refine wp_putI dX11_goes_275 (Or.inl fpX11_126) rfl ⟨rfl, rfl⟩ (sk310 hS) (sn310 hS) ?_
          refine wp_aload_n dX11_goes_278 rfl rfl ?_
          refine wp_aload_n dX11_goes_279 rfl rfl ?_
          refine wp_getI dX11_goes_280 flX11_109 rfl (sk310 hS) (sn310 hS) ?_
          refine wp_aload_n dX11_goes_283 rfl rfl ?_
          refine wp_getI dX11_goes_284 flX11_116 rfl (sk310 hS) (sn310 hS) ?_
          refine wp_isub dX11_goes_287 ?_
          refine wp_putI dX11_goes_288 (Or.inl fpX11_136) rfl ⟨rfl, rfl⟩ (sk310 hS) (sn310 hS) ?_
          obtain ⟨I21, hx22, h⟩ := nm_inv h
          refine wp_nmI hx22 ?_
          exact wp_vret dX11_goes_291 rfl (by obtain rfl := sji h; exact ⟨rfl, rfl, rfl, rfl⟩)
        · have h := ite_t hc20 h
          refine wp_iconst (v := 3) dX11_goes_270 (by decide) ?_
          refine wp_goto (tgt := 275) dX11_goes_271 (by decide) ?_
          refine wp_putI dX11_goes_275 (Or.inl fpX11_126) rfl ⟨rfl, rfl⟩ (sk310 hS) (sn310 hS) ?_
          refine wp_aload_n dX11_goes_278 rfl rfl ?_
          refine wp_aload_n dX11_goes_279 rfl rfl ?_
          refine wp_getI dX11_goes_280 flX11_109 rfl (sk310 hS) (sn310 hS) ?_
          refine wp_aload_n dX11_goes_283 rfl rfl ?_
          refine wp_getI dX11_goes_284 flX11_116 rfl (sk310 hS) (sn310 hS) ?_
          refine wp_isub dX11_goes_287 ?_
          refine wp_putI dX11_goes_288 (Or.inl fpX11_136) rfl ⟨rfl, rfl⟩ (sk310 hS) (sn310 hS) ?_
          obtain ⟨I23, hx24, h⟩ := nm_inv h
          refine wp_nmI hx24 ?_
          exact wp_vret dX11_goes_291 rfl (by obtain rfl := sji h; exact ⟨rfl, rfl, rfl, rfl⟩)
      · have h := ite_f hc17 h
        obtain ⟨I35, hL938, h⟩ := obi h
        refine wp_pick (ks := [1]) rfl (wX11_goes_182 d hd hS   N (upd2 (upd2 I8 310 9 (I8 310 7)) 310 11 0) _ hL938 (fun _ e39 => ?_))
        cases e39
        refine wp_aload_n dX11_goes_245 rfl rfl ?_
        refine wp_iconst (v := 2) dX11_goes_246 (by decide) ?_
        refine wp_putI dX11_goes_247 (Or.inl fpX11_126) rfl ⟨rfl, rfl⟩ (sk310 hS) (sn310 hS) ?_
        refine wp_goto (tgt := 278) dX11_goes_250 (by decide) ?_
        refine wp_aload_n dX11_goes_278 rfl rfl ?_
        refine wp_aload_n dX11_goes_279 rfl rfl ?_
        refine wp_getI dX11_goes_280 flX11_109 rfl (sk310 hS) (sn310 hS) ?_
        refine wp_aload_n dX11_goes_283 rfl rfl ?_
        refine wp_getI dX11_goes_284 flX11_116 rfl (sk310 hS) (sn310 hS) ?_
        refine wp_isub dX11_goes_287 ?_
        refine wp_putI dX11_goes_288 (Or.inl fpX11_136) rfl ⟨rfl, rfl⟩ (sk310 hS) (sn310 hS) ?_
        obtain ⟨I36, hx37, h⟩ := nm_inv h
        refine wp_nmI hx37 ?_
        exact wp_vret dX11_goes_291 rfl (by obtain rfl := sji h; exact ⟨rfl, rfl, rfl, rfl⟩)
    · have h := ite_f hc14 h
      obtain ⟨⟨I50, J51⟩, hL954, h⟩ := obi h
      refine wp_pick (ks := [1]) rfl (wX11_goes_103 d hd hS   N (upd2 (upd2 I8 310 9 (I8 310 7)) 310 11 0) (updJ J 310 12 0) _ hL954 (fun _ _ e55 => ?_))
      cases e55
      refine wp_aload_n dX11_goes_167 rfl rfl ?_
      refine wp_iconst (v := 1) dX11_goes_168 (by decide) ?_
      refine wp_putI dX11_goes_169 (Or.inl fpX11_126) rfl ⟨rfl, rfl⟩ (sk310 hS) (sn310 hS) ?_
      refine wp_goto (tgt := 278) dX11_goes_172 (by decide) ?_
      refine wp_aload_n dX11_goes_278 rfl rfl ?_
      refine wp_aload_n dX11_goes_279 rfl rfl ?_
      refine wp_getI dX11_goes_280 flX11_109 rfl (sk310 hS) (sn310 hS) ?_
      refine wp_aload_n dX11_goes_283 rfl rfl ?_
      refine wp_getI dX11_goes_284 flX11_116 rfl (sk310 hS) (sn310 hS) ?_
      refine wp_isub dX11_goes_287 ?_
      refine wp_putI dX11_goes_288 (Or.inl fpX11_136) rfl ⟨rfl, rfl⟩ (sk310 hS) (sn310 hS) ?_
      obtain ⟨I52, hx53, h⟩ := nm_inv h
      refine wp_nmI hx53 ?_
      exact wp_vret dX11_goes_291 rfl (by obtain rfl := sji h; exact ⟨rfl, rfl, rfl, rfl⟩)
  · have h := ite_f hc11 h
    refine wp_aload_n dX11_goes_88 rfl rfl ?_
    refine wp_iconst (v := 0) dX11_goes_89 (by decide) ?_
    refine wp_putI dX11_goes_90 (Or.inl fpX11_126) rfl ⟨rfl, rfl⟩ (sk310 hS) (sn310 hS) ?_
    refine wp_goto (tgt := 278) dX11_goes_93 (by decide) ?_
    refine wp_aload_n dX11_goes_278 rfl rfl ?_
    refine wp_aload_n dX11_goes_279 rfl rfl ?_
    refine wp_getI dX11_goes_280 flX11_109 rfl (sk310 hS) (sn310 hS) ?_
    obtain ⟨x56, hx57, h⟩ := nm_inv h
    refine wp_topi hx57 ?_
    refine wp_aload_n dX11_goes_283 rfl rfl ?_
    refine wp_getI dX11_goes_284 flX11_116 rfl (sk310 hS) (sn310 hS) ?_
    obtain ⟨x58, hx59, h⟩ := nm_inv h
    refine wp_topi hx59 ?_
    refine wp_isub dX11_goes_287 ?_
    refine wp_putI dX11_goes_288 (Or.inl fpX11_136) rfl ⟨rfl, rfl⟩ (sk310 hS) (sn310 hS) ?_
    obtain ⟨I60, hx61, h⟩ := nm_inv h
    refine wp_nmI hx61 ?_
    exact wp_vret dX11_goes_291 rfl (by obtain rfl := sji h; exact ⟨rfl, rfl, rfl, rfl⟩)
def mX11_spelled (a1 : Int32) (a2 : Int32) (a3 : Int32) (a4 : Int32) (a5 : Int32) (a6 : Int32) (I : gI) : Option (Int64) := nm (((a1.toInt64 - 96) <<< ((5 : Int32).toInt64 &&& 63)) ||| ((a2 - 96).toInt64)) (fun x1 => Option.bind (if a3 = 0 then (some x1) else (nm ((x1 <<< ((5 : Int32).toInt64 &&& 63)) ||| ((a3 - 96).toInt64)) (fun x5 => some x5)) : Option (Int64)) (fun x3 => Option.bind (if a4 = 0 then (some x3) else (nm ((x3 <<< ((5 : Int32).toInt64 &&& 63)) ||| ((a4 - 96).toInt64)) (fun x9 => some x9)) : Option (Int64)) (fun x7 => Option.bind (if a5 = 0 then (some x7) else (nm ((x7 <<< ((5 : Int32).toInt64 &&& 63)) ||| ((a5 - 96).toInt64)) (fun x13 => some x13)) : Option (Int64)) (fun x11 => if a6 = 0 then (some x11) else (nm ((x11 <<< ((5 : Int32).toInt64 &&& 63)) ||| ((a6 - 96).toInt64)) (fun x16 => some x16))))))
set_option maxHeartbeats 4000000 in
set_option maxRecDepth 100000 in
theorem ct_X11_spelled (d : Nat) (hd : 0 ≤ d) {S : gS} {J : gJ} (hS : Sh S)  {a1 : Int32} {a2 : Int32} {a3 : Int32} {a4 : Int32} {a5 : Int32} {a6 : Int32} {I : gI} {r : Int64} (h : mX11_spelled a1 a2 a3 a4 a5 a6 I = some r) : Ct yX11_spelled (wsY yX11_spelled cX11_spelled 8 (some .long)) d 0 0 [.int a1, .int a2, .int a3, .int a4, .int a5, .int a6] S I J (qE (.inl (some (.long r))) S I J) := by
  refine Ct.of hF (fun _ _ _ _ _ => trivial) (by decide +kernel) (Nat.le_of_ble_eq_true rfl) ⟨trivial, trivial, trivial, trivial, trivial, trivial, trivial⟩ ?_
  show Wp RX11 cX11_spelled 8 (some .long) [] hF d 0 0 0 [(0, .int a1), (1, .int a2), (2, .int a3), (3, .int a4), (4, .int a5), (5, .int a6)] [] S I J _
  unfold mX11_spelled at h
  refine wp_iload_n dX11_spelled_0 rfl rfl ?_
  refine wp_i2l dX11_spelled_1 ?_
  refine wp_ldc2 dX11_spelled_2 koX11_139 ?_
  refine wp_lsub dX11_spelled_5 ?_
  refine wp_iconst (v := 5) dX11_spelled_6 (by decide) ?_
  refine wp_lshl dX11_spelled_7 ?_
  refine wp_iload_n dX11_spelled_8 rfl rfl ?_
  refine wp_bipush (v := 96) dX11_spelled_9 (by decide) ?_
  refine wp_isub dX11_spelled_11 ?_
  refine wp_i2l dX11_spelled_12 ?_
  refine wp_lor dX11_spelled_13 ?_
  obtain ⟨x1, hx2, h⟩ := nm_inv h
  refine wp_topl hx2 ?_
  refine wp_lstore (ls' := [(6, .long x1), (0, .int a1), (1, .int a2), (2, .int a3), (3, .int a4), (4, .int a5), (5, .int a6)]) dX11_spelled_14 (Nat.le_of_ble_eq_true rfl) rfl ?_
  refine wp_iload_n dX11_spelled_16 rfl rfl ?_
  obtain ⟨x3, hh20, h⟩ := obi h
  have hJ : Wp RX11 cX11_spelled 8 (some .long) [] hF d 0 0 32 [(3, .int a4), (4, .int a5), (5, .int a6), (6, .long x3)] [] S I J (qE (.inl (some (.long r))) S I J) := by
    refine wp_iload_n dX11_spelled_32 rfl rfl ?_
    obtain ⟨x7, hh19, h⟩ := obi h
    have hJ : Wp RX11 cX11_spelled 8 (some .long) [] hF d 0 0 48 [(4, .int a5), (5, .int a6), (6, .long x7)] [] S I J (qE (.inl (some (.long r))) S I J) := by
      refine wp_iload dX11_spelled_48 rfl ?_
      obtain ⟨x11, hh18, h⟩ := obi h
      have hJ : Wp RX11 cX11_spelled 8 (some .long) [] hF d 0 0 66 [(5, .int a6), (6, .long x11)] [] S I J (qE (.inl (some (.long r))) S I J) := by
        refine wp_iload dX11_spelled_66 rfl ?_
        refine wp_if_eq (tgt := 84) dX11_spelled_68 (by decide) (fun hc15 => ?_) (fun hc15 => ?_)
        · have h := ite_t hc15 h
          refine wp_lload dX11_spelled_84 rfl ?_
          exact wp_lret dX11_spelled_86 rfl (by obtain rfl := sji h; exact ⟨rfl, rfl, rfl, rfl⟩)
        · have h := ite_f hc15 h
          refine wp_lload dX11_spelled_71 rfl ?_
          refine wp_iconst (v := 5) dX11_spelled_73 (by decide) ?_
          refine wp_lshl dX11_spelled_74 ?_
          refine wp_iload dX11_spelled_75 rfl ?_
          refine wp_bipush (v := 96) dX11_spelled_77 (by decide) ?_
          refine wp_isub dX11_spelled_79 ?_
          refine wp_i2l dX11_spelled_80 ?_
          refine wp_lor dX11_spelled_81 ?_
          obtain ⟨x16, hx17, h⟩ := nm_inv h
          refine wp_topl hx17 ?_
          refine wp_lstore (ls' := [(6, .long x16), (5, .int a6)]) dX11_spelled_82 (Nat.le_of_ble_eq_true rfl) rfl ?_
          refine wp_lload dX11_spelled_84 rfl ?_
          exact wp_lret dX11_spelled_86 rfl (by obtain rfl := sji h; exact ⟨rfl, rfl, rfl, rfl⟩)
      clear h
      have h := hh18
      clear hh18
      refine wp_if_eq (tgt := 66) dX11_spelled_50 (by decide) (fun hc12 => ?_) (fun hc12 => ?_)
      · have h := ite_t hc12 h
        cases h
        exact wp_pick (ks := [1, 2]) rfl hJ
      · have h := ite_f hc12 h
        refine wp_lload dX11_spelled_53 rfl ?_
        refine wp_iconst (v := 5) dX11_spelled_55 (by decide) ?_
        refine wp_lshl dX11_spelled_56 ?_
        refine wp_iload dX11_spelled_57 rfl ?_
        refine wp_bipush (v := 96) dX11_spelled_59 (by decide) ?_
        refine wp_isub dX11_spelled_61 ?_
        refine wp_i2l dX11_spelled_62 ?_
        refine wp_lor dX11_spelled_63 ?_
        obtain ⟨x13, hx14, h⟩ := nm_inv h
        refine wp_topl hx14 ?_
        refine wp_lstore (ls' := [(6, .long x13), (4, .int a5), (5, .int a6)]) dX11_spelled_64 (Nat.le_of_ble_eq_true rfl) rfl ?_
        cases h
        exact wp_pick (ks := [2, 0]) rfl hJ
    clear h
    have h := hh19
    clear hh19
    refine wp_if_eq (tgt := 48) dX11_spelled_33 (by decide) (fun hc8 => ?_) (fun hc8 => ?_)
    · have h := ite_t hc8 h
      cases h
      exact wp_pick (ks := [1, 2, 3]) rfl hJ
    · have h := ite_f hc8 h
      refine wp_lload dX11_spelled_36 rfl ?_
      refine wp_iconst (v := 5) dX11_spelled_38 (by decide) ?_
      refine wp_lshl dX11_spelled_39 ?_
      refine wp_iload_n dX11_spelled_40 rfl rfl ?_
      refine wp_bipush (v := 96) dX11_spelled_41 (by decide) ?_
      refine wp_isub dX11_spelled_43 ?_
      refine wp_i2l dX11_spelled_44 ?_
      refine wp_lor dX11_spelled_45 ?_
      obtain ⟨x9, hx10, h⟩ := nm_inv h
      refine wp_topl hx10 ?_
      refine wp_lstore (ls' := [(6, .long x9), (3, .int a4), (4, .int a5), (5, .int a6)]) dX11_spelled_46 (Nat.le_of_ble_eq_true rfl) rfl ?_
      cases h
      exact wp_pick (ks := [2, 3, 0]) rfl hJ
  clear h
  have h := hh20
  clear hh20
  refine wp_if_eq (tgt := 32) dX11_spelled_17 (by decide) (fun hc4 => ?_) (fun hc4 => ?_)
  · have h := ite_t hc4 h
    cases h
    exact wp_pick (ks := [4, 5, 6, 0]) rfl hJ
  · have h := ite_f hc4 h
    refine wp_lload dX11_spelled_20 rfl ?_
    refine wp_iconst (v := 5) dX11_spelled_22 (by decide) ?_
    refine wp_lshl dX11_spelled_23 ?_
    refine wp_iload_n dX11_spelled_24 rfl rfl ?_
    refine wp_bipush (v := 96) dX11_spelled_25 (by decide) ?_
    refine wp_isub dX11_spelled_27 ?_
    refine wp_i2l dX11_spelled_28 ?_
    refine wp_lor dX11_spelled_29 ?_
    obtain ⟨x5, hx6, h⟩ := nm_inv h
    refine wp_topl hx6 ?_
    refine wp_lstore (ls' := [(6, .long x5), (0, .int a1), (1, .int a2), (2, .int a3), (3, .int a4), (4, .int a5), (5, .int a6)]) dX11_spelled_30 (Nat.le_of_ble_eq_true rfl) rfl ?_
    cases h
    exact wp_pick (ks := [4, 5, 6, 0]) rfl hJ
def mX11_isWord (a2 : Int64) (a3 : Int32) (I : gI) (J : gJ) : Option (Int32) := if (I 310 8) = 1 then (if (I 310 10) = a3 then (if (lg_cmp (J 310 12) a2) = 0 then (some 1) else (some 0)) else (some 0)) else (some 0)
set_option maxHeartbeats 4000000 in
set_option maxRecDepth 100000 in
theorem ct_X11_isWord (d : Nat) (hd : 0 ≤ d) {S : gS} {J : gJ} (hS : Sh S)  {a2 : Int64} {a3 : Int32} {I : gI} {r : Int32} (h : mX11_isWord a2 a3 I J = some r) : Ct yX11_isWord (wsY yX11_isWord cX11_isWord 4 (some .boolean)) d 0 0 [.ref 310, .long a2, .int a3] S I J (qE (.inl (some (.int r))) S I J) := by
  refine Ct.of hF (fun _ _ _ _ _ => trivial) (by decide +kernel) (Nat.le_of_ble_eq_true rfl) ⟨Or.inl (sn310 hS), trivial, trivial, trivial⟩ ?_
  show Wp RX11 cX11_isWord 4 (some .boolean) [] hF d 0 0 0 [(0, .ref 310), (1, .long a2), (3, .int a3)] [] S I J _
  unfold mX11_isWord at h
  refine wp_aload_n dX11_isWord_0 rfl rfl ?_
  refine wp_getI dX11_isWord_1 flX11_126 rfl (sk310 hS) (sn310 hS) ?_
  refine wp_iconst (v := 1) dX11_isWord_4 (by decide) ?_
  refine wp_icmp_ne (tgt := 29) dX11_isWord_5 (by decide) (fun hc1 => ?_) (fun hc1 => ?_)
  · have h := ite_f hc1 h
    refine wp_iconst (v := 0) dX11_isWord_29 (by decide) ?_
    exact wp_zret dX11_isWord_30 rfl (by decide) (by obtain rfl := sji h; exact ⟨rfl, rfl, rfl, rfl⟩)
  · have h := ite_t hc1 h
    refine wp_aload_n dX11_isWord_8 rfl rfl ?_
    refine wp_getI dX11_isWord_9 flX11_136 rfl (sk310 hS) (sn310 hS) ?_
    refine wp_iload_n dX11_isWord_12 rfl rfl ?_
    refine wp_icmp_ne (tgt := 29) dX11_isWord_13 (by decide) (fun hc2 => ?_) (fun hc2 => ?_)
    · have h := ite_f hc2 h
      refine wp_iconst (v := 0) dX11_isWord_29 (by decide) ?_
      exact wp_zret dX11_isWord_30 rfl (by decide) (by obtain rfl := sji h; exact ⟨rfl, rfl, rfl, rfl⟩)
    · have h := ite_t hc2 h
      refine wp_aload_n dX11_isWord_16 rfl rfl ?_
      refine wp_getJ dX11_isWord_17 flX11_119 rfl (sk310 hS) (sn310 hS) ?_
      refine wp_lload_n dX11_isWord_20 rfl rfl ?_
      refine wp_lcmp dX11_isWord_21 ?_
      refine wp_if_ne (tgt := 29) dX11_isWord_22 (by decide) (fun hc3 => ?_) (fun hc3 => ?_)
      · have h := ite_f hc3 h
        refine wp_iconst (v := 0) dX11_isWord_29 (by decide) ?_
        exact wp_zret dX11_isWord_30 rfl (by decide) (by obtain rfl := sji h; exact ⟨rfl, rfl, rfl, rfl⟩)
      · have h := ite_t hc3 h
        refine wp_iconst (v := 1) dX11_isWord_25 (by decide) ?_
        refine wp_goto (tgt := 30) dX11_isWord_26 (by decide) ?_
        exact wp_zret dX11_isWord_30 rfl (by decide) (by obtain rfl := sji h; exact ⟨rfl, rfl, rfl, rfl⟩)
def mX11_wrong (a2 : Int32) (I : gI) : Option (gI) := if (I 310 3) = 0 then (some (upd2 (upd2 I 310 3 a2) 310 4 ((upd2 I 310 3 a2) 310 9))) else (some I)
set_option maxHeartbeats 4000000 in
set_option maxRecDepth 100000 in
theorem ct_X11_wrong (d : Nat) (hd : 0 ≤ d) {S : gS} {J : gJ} (hS : Sh S)  {a2 : Int32} {I : gI} {r : gI} (h : mX11_wrong a2 I = some r) : Ct yX11_wrong (wsY yX11_wrong cX11_wrong 2 none) d 0 0 [.ref 310, .int a2] S I J (qE (.inl none) S r J) := by
  refine Ct.of hF (fun _ _ _ _ _ => trivial) (by decide +kernel) (Nat.le_of_ble_eq_true rfl) ⟨Or.inl (sn310 hS), trivial, trivial⟩ ?_
  show Wp RX11 cX11_wrong 2 none [] hF d 0 0 0 [(0, .ref 310), (1, .int a2)] [] S I J _
  unfold mX11_wrong at h
  refine wp_aload_n dX11_wrong_0 rfl rfl ?_
  refine wp_getI dX11_wrong_1 flX11_141 rfl (sk310 hS) (sn310 hS) ?_
  refine wp_if_eq (tgt := 8) dX11_wrong_4 (by decide) (fun hc1 => ?_) (fun hc1 => ?_)
  · have h := ite_t hc1 h
    refine wp_aload_n dX11_wrong_8 rfl rfl ?_
    refine wp_iload_n dX11_wrong_9 rfl rfl ?_
    refine wp_putI dX11_wrong_10 (Or.inl fpX11_141) rfl ⟨rfl, rfl⟩ (sk310 hS) (sn310 hS) ?_
    refine wp_aload_n dX11_wrong_13 rfl rfl ?_
    refine wp_aload_n dX11_wrong_14 rfl rfl ?_
    refine wp_getI dX11_wrong_15 flX11_116 rfl (sk310 hS) (sn310 hS) ?_
    refine wp_putI dX11_wrong_18 (Or.inl fpX11_13) rfl ⟨rfl, rfl⟩ (sk310 hS) (sn310 hS) ?_
    exact wp_vret dX11_wrong_21 rfl (by obtain rfl := sji h; exact ⟨rfl, rfl, rfl, rfl⟩)
  · have h := ite_f hc1 h
    exact wp_vret dX11_wrong_7 rfl (by obtain rfl := sji h; exact ⟨rfl, rfl, rfl, rfl⟩)
def mX11_isGood (I : gI) : Option (Int32) := if (I 310 3) = 0 then (some 1) else (some 0)
set_option maxHeartbeats 4000000 in
set_option maxRecDepth 100000 in
theorem ct_X11_isGood (d : Nat) (hd : 0 ≤ d) {S : gS} {J : gJ} (hS : Sh S)  {I : gI} {r : Int32} (h : mX11_isGood I = some r) : Ct yX11_isGood (wsY yX11_isGood cX11_isGood 1 (some .boolean)) d 0 0 [.ref 310] S I J (qE (.inl (some (.int r))) S I J) := by
  refine Ct.of hF (fun _ _ _ _ _ => trivial) (by decide +kernel) (Nat.le_of_ble_eq_true rfl) ⟨Or.inl (sn310 hS), trivial⟩ ?_
  show Wp RX11 cX11_isGood 1 (some .boolean) [] hF d 0 0 0 [(0, .ref 310)] [] S I J _
  unfold mX11_isGood at h
  refine wp_aload_n dX11_isGood_0 rfl rfl ?_
  refine wp_getI dX11_isGood_1 flX11_141 rfl (sk310 hS) (sn310 hS) ?_
  refine wp_if_ne (tgt := 11) dX11_isGood_4 (by decide) (fun hc1 => ?_) (fun hc1 => ?_)
  · have h := ite_f hc1 h
    refine wp_iconst (v := 0) dX11_isGood_11 (by decide) ?_
    exact wp_zret dX11_isGood_12 rfl (by decide) (by obtain rfl := sji h; exact ⟨rfl, rfl, rfl, rfl⟩)
  · have h := ite_t hc1 h
    refine wp_iconst (v := 1) dX11_isGood_7 (by decide) ?_
    refine wp_goto (tgt := 12) dX11_isGood_8 (by decide) ?_
    exact wp_zret dX11_isGood_12 rfl (by decide) (by obtain rfl := sji h; exact ⟨rfl, rfl, rfl, rfl⟩)
def mX11_need (N : Nat) (a2 : Int32) (I : gI) (J : gJ) : Option (gI × gJ) := Option.bind (mX11_isGood I) (fun r1 => if r1 = 0 then (some (I, J)) else (if a2 = 0 then (Option.bind (mX11_wrong 1 I) (fun I5 => some (I5, J))) else (Option.bind (mX11_goes N I J) (fun (I7, J8) => some (I7, J8)))))
set_option maxHeartbeats 4000000 in
set_option maxRecDepth 100000 in
theorem ct_X11_need (N : Nat) (d : Nat) (hd : 2 ≤ d) {S : gS} {J : gJ} (hS : Sh S)  {a2 : Int32} {I : gI} {r : gI × gJ} (h : mX11_need N a2 I J = some r) : Ct yX11_need (wsY yX11_need cX11_need 2 none) d 0 0 [.ref 310, .int a2] S I J (qE (.inl none) S r.1 r.2) := by
  refine Ct.of hF (fun _ _ _ _ _ => trivial) (by decide +kernel) (Nat.le_of_ble_eq_true rfl) ⟨Or.inl (sn310 hS), trivial, trivial⟩ ?_
  show Wp RX11 cX11_need 2 none [] hF d 0 0 0 [(0, .ref 310), (1, .int a2)] [] S I J _
  unfold mX11_need at h
  refine wp_aload_n dX11_need_0 rfl rfl ?_
  obtain ⟨r1, hF2, h⟩ := obi h
  refine wp_callVi (ci := 11) (As := []) dX11_need_1 lbX11_isGood mlX11_144 imX11_isGood seX11_isGood vc11 (ct_X11_isGood 0 (Nat.le_refl _) hS  hF2) rfl rfl (Nat.le_trans (by decide) hd) (sk310 hS) (sn310 hS) (Nat.le_of_ble_eq_true rfl) (fun _ => ?_)
  refine wp_if_ne (tgt := 8) dX11_need_4 (by decide) (fun hc3 => ?_) (fun hc3 => ?_)
  · have h := ite_f hc3 h
    refine wp_iload_n dX11_need_8 rfl rfl ?_
    refine wp_if_eq (tgt := 19) dX11_need_9 (by decide) (fun hc4 => ?_) (fun hc4 => ?_)
    · have h := ite_t hc4 h
      refine wp_aload_n dX11_need_19 rfl rfl ?_
      refine wp_iconst (v := 1) dX11_need_20 (by decide) ?_
      obtain ⟨I5, hF6, h⟩ := obi h
      refine wp_callVv (ci := 11) (As := [.int 1]) dX11_need_21 lbX11_wrong mlX11_151 imX11_wrong seX11_wrong vc11 (ct_X11_wrong 0 (Nat.le_refl _) hS  hF6) rfl rfl (Nat.le_trans (by decide) hd) (sk310 hS) (sn310 hS) (Nat.le_of_ble_eq_true rfl) (fun _ => ?_)
      exact wp_vret dX11_need_24 rfl (by obtain rfl := sji h; exact ⟨rfl, rfl, rfl, rfl⟩)
    · have h := ite_f hc4 h
      refine wp_aload_n dX11_need_12 rfl rfl ?_
      obtain ⟨⟨I7, J8⟩, hF9, h⟩ := obi h
      refine wp_callVv (ci := 11) (As := []) dX11_need_13 lbX11_goes mlX11_148 imX11_goes seX11_goes vc11 (ct_X11_goes N 1 (Nat.le_refl _) hS  hF9) rfl rfl (Nat.le_trans (by decide) hd) (sk310 hS) (sn310 hS) (Nat.le_of_ble_eq_true rfl) (fun _ => ?_)
      refine wp_goto (tgt := 24) dX11_need_16 (by decide) ?_
      exact wp_vret dX11_need_24 rfl (by obtain rfl := sji h; exact ⟨rfl, rfl, rfl, rfl⟩)
  · have h := ite_t hc3 h
    exact wp_vret dX11_need_7 rfl (by obtain rfl := sji h; exact ⟨rfl, rfl, rfl, rfl⟩)
def mX11_number (N : Nat) (a2 : Int32) (a3 : Int32) (I : gI) (J : gJ) : Option (Int32 × gI × gJ) := Option.bind (mX11_isGood I) (fun r1 => if r1 = 0 then (some (0, I, J)) else (Option.bind (if (I 310 8) = 2 then (if 4 < (I 310 10) then (Option.bind (mX11_wrong 2 I) (fun I7 => some I7)) else (if (I 310 11) < a2 then (Option.bind (mX11_wrong 2 I) (fun I10 => some I10)) else (if (I 310 11) ≤ a3 then (some I) else (Option.bind (mX11_wrong 2 I) (fun I13 => some I13))))) else (Option.bind (mX11_wrong 1 I) (fun I15 => some I15)) : Option (gI)) (fun I4 => Option.bind (mX11_isGood I4) (fun r17 => if r17 = 0 then (some (I4 310 11, I4, J)) else (Option.bind (mX11_goes N I4 J) (fun (I20, J21) => some (I4 310 11, I20, J21)))))))
set_option maxHeartbeats 4000000 in
set_option maxRecDepth 100000 in
theorem ct_X11_number (N : Nat) (d : Nat) (hd : 2 ≤ d) {S : gS} {J : gJ} (hS : Sh S)  {a2 : Int32} {a3 : Int32} {I : gI} {r : Int32 × gI × gJ} (h : mX11_number N a2 a3 I J = some r) : Ct yX11_number (wsY yX11_number cX11_number 4 (some .int)) d 0 0 [.ref 310, .int a2, .int a3] S I J (qE (.inl (some (.int r.1))) S r.2.1 r.2.2) := by
  refine Ct.of hF (fun _ _ _ _ _ => trivial) (by decide +kernel) (Nat.le_of_ble_eq_true rfl) ⟨Or.inl (sn310 hS), trivial, trivial, trivial⟩ ?_
  show Wp RX11 cX11_number 4 (some .int) [] hF d 0 0 0 [(0, .ref 310), (1, .int a2), (2, .int a3)] [] S I J _
  unfold mX11_number at h
  refine wp_aload_n dX11_number_0 rfl rfl ?_
  obtain ⟨r1, hF2, h⟩ := obi h
  refine wp_callVi (ci := 11) (As := []) dX11_number_1 lbX11_isGood mlX11_144 imX11_isGood seX11_isGood vc11 (ct_X11_isGood 0 (Nat.le_refl _) hS  hF2) rfl rfl (Nat.le_trans (by decide) hd) (sk310 hS) (sn310 hS) (Nat.le_of_ble_eq_true rfl) (fun _ => ?_)
  refine wp_if_ne (tgt := 9) dX11_number_4 (by decide) (fun hc3 => ?_) (fun hc3 => ?_)
  · have h := ite_f hc3 h
    refine wp_aload_n dX11_number_9 rfl rfl ?_
    refine wp_getI dX11_number_10 flX11_126 rfl (sk310 hS) (sn310 hS) ?_
    refine wp_iconst (v := 2) dX11_number_13 (by decide) ?_
    obtain ⟨I4, hh23, h⟩ := obi h
    have hJ : Wp RX11 cX11_number 4 (some .int) [] hF d 0 0 54 [(0, .ref 310)] [] S I4 J (qE (.inl (some (.int r.1))) S r.2.1 r.2.2) := by
      refine wp_aload_n dX11_number_54 rfl rfl ?_
      refine wp_getI dX11_number_55 flX11_123 rfl (sk310 hS) (sn310 hS) ?_
      refine wp_istore_n (ls' := [(3, .int (I4 310 11)), (0, .ref 310)]) dX11_number_58 rfl (Nat.le_of_ble_eq_true rfl) rfl ?_
      refine wp_aload_n dX11_number_59 rfl rfl ?_
      obtain ⟨r17, hF18, h⟩ := obi h
      refine wp_callVi (ci := 11) (As := []) dX11_number_60 lbX11_isGood mlX11_144 imX11_isGood seX11_isGood vc11 (ct_X11_isGood 0 (Nat.le_refl _) hS  hF18) rfl rfl (Nat.le_trans (by decide) hd) (sk310 hS) (sn310 hS) (Nat.le_of_ble_eq_true rfl) (fun _ => ?_)
      refine wp_if_eq (tgt := 70) dX11_number_63 (by decide) (fun hc19 => ?_) (fun hc19 => ?_)
      · have h := ite_t hc19 h
        refine wp_iload_n dX11_number_70 rfl rfl ?_
        exact wp_iret dX11_number_71 rfl (by obtain rfl := sji h; exact ⟨rfl, rfl, rfl, rfl⟩)
      · have h := ite_f hc19 h
        refine wp_aload_n dX11_number_66 rfl rfl ?_
        obtain ⟨⟨I20, J21⟩, hF22, h⟩ := obi h
        refine wp_callVv (ci := 11) (As := []) dX11_number_67 lbX11_goes mlX11_148 imX11_goes seX11_goes vc11 (ct_X11_goes N 1 (Nat.le_refl _) hS  hF22) rfl rfl (Nat.le_trans (by decide) hd) (sk310 hS) (sn310 hS) (Nat.le_of_ble_eq_true rfl) (fun _ => ?_)
        refine wp_iload_n dX11_number_70 rfl rfl ?_
        exact wp_iret dX11_number_71 rfl (by obtain rfl := sji h; exact ⟨rfl, rfl, rfl, rfl⟩)
    clear h
    have h := hh23
    clear hh23
    refine wp_icmp_eq (tgt := 25) dX11_number_14 (by decide) (fun hc5 => ?_) (fun hc5 => ?_)
    · have h := ite_t hc5 h
      refine wp_aload_n dX11_number_25 rfl rfl ?_
      refine wp_getI dX11_number_26 flX11_136 rfl (sk310 hS) (sn310 hS) ?_
      refine wp_iconst (v := 4) dX11_number_29 (by decide) ?_
      refine wp_icmp_gt (tgt := 49) dX11_number_30 (by decide) (fun hc6 => ?_) (fun hc6 => ?_)
      · have h := ite_t hc6 h
        refine wp_aload_n dX11_number_49 rfl rfl ?_
        refine wp_iconst (v := 2) dX11_number_50 (by decide) ?_
        obtain ⟨I7, hF8, h⟩ := obi h
        refine wp_callVv (ci := 11) (As := [.int 2]) dX11_number_51 lbX11_wrong mlX11_151 imX11_wrong seX11_wrong vc11 (ct_X11_wrong 0 (Nat.le_refl _) hS  hF8) rfl rfl (Nat.le_trans (by decide) hd) (sk310 hS) (sn310 hS) (Nat.le_of_ble_eq_true rfl) (fun _ => ?_)
        cases h
        exact wp_pick (ks := [0]) rfl hJ
      · have h := ite_f hc6 h
        refine wp_aload_n dX11_number_33 rfl rfl ?_
        refine wp_getI dX11_number_34 flX11_123 rfl (sk310 hS) (sn310 hS) ?_
        refine wp_iload_n dX11_number_37 rfl rfl ?_
        refine wp_icmp_lt (tgt := 49) dX11_number_38 (by decide) (fun hc9 => ?_) (fun hc9 => ?_)
        · have h := ite_t hc9 h
          refine wp_aload_n dX11_number_49 rfl rfl ?_
          refine wp_iconst (v := 2) dX11_number_50 (by decide) ?_
          obtain ⟨I10, hF11, h⟩ := obi h
          refine wp_callVv (ci := 11) (As := [.int 2]) dX11_number_51 lbX11_wrong mlX11_151 imX11_wrong seX11_wrong vc11 (ct_X11_wrong 0 (Nat.le_refl _) hS  hF11) rfl rfl (Nat.le_trans (by decide) hd) (sk310 hS) (sn310 hS) (Nat.le_of_ble_eq_true rfl) (fun _ => ?_)
          cases h
          exact wp_pick (ks := [0]) rfl hJ
        · have h := ite_f hc9 h
          refine wp_aload_n dX11_number_41 rfl rfl ?_
          refine wp_getI dX11_number_42 flX11_123 rfl (sk310 hS) (sn310 hS) ?_
          refine wp_iload_n dX11_number_45 rfl rfl ?_
          refine wp_icmp_le (tgt := 54) dX11_number_46 (by decide) (fun hc12 => ?_) (fun hc12 => ?_)
          · have h := ite_t hc12 h
            cases h
            exact wp_pick (ks := [0]) rfl hJ
          · have h := ite_f hc12 h
            refine wp_aload_n dX11_number_49 rfl rfl ?_
            refine wp_iconst (v := 2) dX11_number_50 (by decide) ?_
            obtain ⟨I13, hF14, h⟩ := obi h
            refine wp_callVv (ci := 11) (As := [.int 2]) dX11_number_51 lbX11_wrong mlX11_151 imX11_wrong seX11_wrong vc11 (ct_X11_wrong 0 (Nat.le_refl _) hS  hF14) rfl rfl (Nat.le_trans (by decide) hd) (sk310 hS) (sn310 hS) (Nat.le_of_ble_eq_true rfl) (fun _ => ?_)
            cases h
            exact wp_pick (ks := [0]) rfl hJ
    · have h := ite_f hc5 h
      refine wp_aload_n dX11_number_17 rfl rfl ?_
      refine wp_iconst (v := 1) dX11_number_18 (by decide) ?_
      obtain ⟨I15, hF16, h⟩ := obi h
      refine wp_callVv (ci := 11) (As := [.int 1]) dX11_number_19 lbX11_wrong mlX11_151 imX11_wrong seX11_wrong vc11 (ct_X11_wrong 0 (Nat.le_refl _) hS  hF16) rfl rfl (Nat.le_trans (by decide) hd) (sk310 hS) (sn310 hS) (Nat.le_of_ble_eq_true rfl) (fun _ => ?_)
      refine wp_goto (tgt := 54) dX11_number_22 (by decide) ?_
      cases h
      exact wp_pick (ks := [0]) rfl hJ
  · have h := ite_t hc3 h
    refine wp_iconst (v := 0) dX11_number_7 (by decide) ?_
    exact wp_iret dX11_number_8 rfl (by obtain rfl := sji h; exact ⟨rfl, rfl, rfl, rfl⟩)
def mX11_nodeBut (N : Nat) (a2 : Int32) (I : gI) (J : gJ) : Option (Int32 × gI × gJ) := Option.bind (mX11_isGood I) (fun r1 => if r1 = 0 then (some (0, I, J)) else (Option.bind (if (I 310 8) = 2 then (if (I 310 10) ≤ 4 then (if (I 310 11) < (I 310 16) then (if (I 310 11) = a2 then (Option.bind (mX11_wrong 4 I) (fun I9 => some I9)) else (some I)) else (Option.bind (mX11_wrong 3 I) (fun I11 => some I11))) else (Option.bind (mX11_wrong 2 I) (fun I13 => some I13))) else (Option.bind (mX11_wrong 1 I) (fun I15 => some I15)) : Option (gI)) (fun I4 => Option.bind (mX11_isGood I4) (fun r17 => if r17 = 0 then (some (I4 310 11, I4, J)) else (Option.bind (mX11_goes N I4 J) (fun (I20, J21) => some (I4 310 11, I20, J21)))))))
set_option maxHeartbeats 4000000 in
set_option maxRecDepth 100000 in
theorem ct_X11_nodeBut (N : Nat) (d : Nat) (hd : 2 ≤ d) {S : gS} {J : gJ} (hS : Sh S)  {a2 : Int32} {I : gI} {r : Int32 × gI × gJ} (h : mX11_nodeBut N a2 I J = some r) : Ct yX11_nodeBut (wsY yX11_nodeBut cX11_nodeBut 3 (some .int)) d 0 0 [.ref 310, .int a2] S I J (qE (.inl (some (.int r.1))) S r.2.1 r.2.2) := by
  refine Ct.of hF (fun _ _ _ _ _ => trivial) (by decide +kernel) (Nat.le_of_ble_eq_true rfl) ⟨Or.inl (sn310 hS), trivial, trivial⟩ ?_
  show Wp RX11 cX11_nodeBut 3 (some .int) [] hF d 0 0 0 [(0, .ref 310), (1, .int a2)] [] S I J _
  unfold mX11_nodeBut at h
  refine wp_aload_n dX11_nodeBut_0 rfl rfl ?_
  obtain ⟨r1, hF2, h⟩ := obi h
  refine wp_callVi (ci := 11) (As := []) dX11_nodeBut_1 lbX11_isGood mlX11_144 imX11_isGood seX11_isGood vc11 (ct_X11_isGood 0 (Nat.le_refl _) hS  hF2) rfl rfl (Nat.le_trans (by decide) hd) (sk310 hS) (sn310 hS) (Nat.le_of_ble_eq_true rfl) (fun _ => ?_)
  refine wp_if_ne (tgt := 9) dX11_nodeBut_4 (by decide) (fun hc3 => ?_) (fun hc3 => ?_)
  · have h := ite_f hc3 h
    refine wp_aload_n dX11_nodeBut_9 rfl rfl ?_
    refine wp_getI dX11_nodeBut_10 flX11_126 rfl (sk310 hS) (sn310 hS) ?_
    refine wp_iconst (v := 2) dX11_nodeBut_13 (by decide) ?_
    obtain ⟨I4, hh23, h⟩ := obi h
    have hJ : Wp RX11 cX11_nodeBut 3 (some .int) [] hF d 0 0 73 [(0, .ref 310)] [] S I4 J (qE (.inl (some (.int r.1))) S r.2.1 r.2.2) := by
      refine wp_aload_n dX11_nodeBut_73 rfl rfl ?_
      refine wp_getI dX11_nodeBut_74 flX11_123 rfl (sk310 hS) (sn310 hS) ?_
      refine wp_istore_n (ls' := [(2, .int (I4 310 11)), (0, .ref 310)]) dX11_nodeBut_77 rfl (Nat.le_of_ble_eq_true rfl) rfl ?_
      refine wp_aload_n dX11_nodeBut_78 rfl rfl ?_
      obtain ⟨r17, hF18, h⟩ := obi h
      refine wp_callVi (ci := 11) (As := []) dX11_nodeBut_79 lbX11_isGood mlX11_144 imX11_isGood seX11_isGood vc11 (ct_X11_isGood 0 (Nat.le_refl _) hS  hF18) rfl rfl (Nat.le_trans (by decide) hd) (sk310 hS) (sn310 hS) (Nat.le_of_ble_eq_true rfl) (fun _ => ?_)
      refine wp_if_eq (tgt := 89) dX11_nodeBut_82 (by decide) (fun hc19 => ?_) (fun hc19 => ?_)
      · have h := ite_t hc19 h
        refine wp_iload_n dX11_nodeBut_89 rfl rfl ?_
        exact wp_iret dX11_nodeBut_90 rfl (by obtain rfl := sji h; exact ⟨rfl, rfl, rfl, rfl⟩)
      · have h := ite_f hc19 h
        refine wp_aload_n dX11_nodeBut_85 rfl rfl ?_
        obtain ⟨⟨I20, J21⟩, hF22, h⟩ := obi h
        refine wp_callVv (ci := 11) (As := []) dX11_nodeBut_86 lbX11_goes mlX11_148 imX11_goes seX11_goes vc11 (ct_X11_goes N 1 (Nat.le_refl _) hS  hF22) rfl rfl (Nat.le_trans (by decide) hd) (sk310 hS) (sn310 hS) (Nat.le_of_ble_eq_true rfl) (fun _ => ?_)
        refine wp_iload_n dX11_nodeBut_89 rfl rfl ?_
        exact wp_iret dX11_nodeBut_90 rfl (by obtain rfl := sji h; exact ⟨rfl, rfl, rfl, rfl⟩)
    clear h
    have h := hh23
    clear hh23
    refine wp_icmp_eq (tgt := 25) dX11_nodeBut_14 (by decide) (fun hc5 => ?_) (fun hc5 => ?_)
    · have h := ite_t hc5 h
      refine wp_aload_n dX11_nodeBut_25 rfl rfl ?_
      refine wp_getI dX11_nodeBut_26 flX11_136 rfl (sk310 hS) (sn310 hS) ?_
      refine wp_iconst (v := 4) dX11_nodeBut_29 (by decide) ?_
      refine wp_icmp_le (tgt := 41) dX11_nodeBut_30 (by decide) (fun hc6 => ?_) (fun hc6 => ?_)
      · have h := ite_t hc6 h
        refine wp_aload_n dX11_nodeBut_41 rfl rfl ?_
        refine wp_getI dX11_nodeBut_42 flX11_123 rfl (sk310 hS) (sn310 hS) ?_
        refine wp_aload_n dX11_nodeBut_45 rfl rfl ?_
        refine wp_getI dX11_nodeBut_46 flX11_154 rfl (sk310 hS) (sn310 hS) ?_
        refine wp_icmp_lt (tgt := 60) dX11_nodeBut_49 (by decide) (fun hc7 => ?_) (fun hc7 => ?_)
        · have h := ite_t hc7 h
          refine wp_aload_n dX11_nodeBut_60 rfl rfl ?_
          refine wp_getI dX11_nodeBut_61 flX11_123 rfl (sk310 hS) (sn310 hS) ?_
          refine wp_iload_n dX11_nodeBut_64 rfl rfl ?_
          refine wp_icmp_ne (tgt := 73) dX11_nodeBut_65 (by decide) (fun hc8 => ?_) (fun hc8 => ?_)
          · have h := ite_f hc8 h
            cases h
            exact wp_pick (ks := [0]) rfl hJ
          · have h := ite_t hc8 h
            refine wp_aload_n dX11_nodeBut_68 rfl rfl ?_
            refine wp_iconst (v := 4) dX11_nodeBut_69 (by decide) ?_
            obtain ⟨I9, hF10, h⟩ := obi h
            refine wp_callVv (ci := 11) (As := [.int 4]) dX11_nodeBut_70 lbX11_wrong mlX11_151 imX11_wrong seX11_wrong vc11 (ct_X11_wrong 0 (Nat.le_refl _) hS  hF10) rfl rfl (Nat.le_trans (by decide) hd) (sk310 hS) (sn310 hS) (Nat.le_of_ble_eq_true rfl) (fun _ => ?_)
            cases h
            exact wp_pick (ks := [0]) rfl hJ
        · have h := ite_f hc7 h
          refine wp_aload_n dX11_nodeBut_52 rfl rfl ?_
          refine wp_iconst (v := 3) dX11_nodeBut_53 (by decide) ?_
          obtain ⟨I11, hF12, h⟩ := obi h
          refine wp_callVv (ci := 11) (As := [.int 3]) dX11_nodeBut_54 lbX11_wrong mlX11_151 imX11_wrong seX11_wrong vc11 (ct_X11_wrong 0 (Nat.le_refl _) hS  hF12) rfl rfl (Nat.le_trans (by decide) hd) (sk310 hS) (sn310 hS) (Nat.le_of_ble_eq_true rfl) (fun _ => ?_)
          refine wp_goto (tgt := 73) dX11_nodeBut_57 (by decide) ?_
          cases h
          exact wp_pick (ks := [0]) rfl hJ
      · have h := ite_f hc6 h
        refine wp_aload_n dX11_nodeBut_33 rfl rfl ?_
        refine wp_iconst (v := 2) dX11_nodeBut_34 (by decide) ?_
        obtain ⟨I13, hF14, h⟩ := obi h
        refine wp_callVv (ci := 11) (As := [.int 2]) dX11_nodeBut_35 lbX11_wrong mlX11_151 imX11_wrong seX11_wrong vc11 (ct_X11_wrong 0 (Nat.le_refl _) hS  hF14) rfl rfl (Nat.le_trans (by decide) hd) (sk310 hS) (sn310 hS) (Nat.le_of_ble_eq_true rfl) (fun _ => ?_)
        refine wp_goto (tgt := 73) dX11_nodeBut_38 (by decide) ?_
        cases h
        exact wp_pick (ks := [0]) rfl hJ
    · have h := ite_f hc5 h
      refine wp_aload_n dX11_nodeBut_17 rfl rfl ?_
      refine wp_iconst (v := 1) dX11_nodeBut_18 (by decide) ?_
      obtain ⟨I15, hF16, h⟩ := obi h
      refine wp_callVv (ci := 11) (As := [.int 1]) dX11_nodeBut_19 lbX11_wrong mlX11_151 imX11_wrong seX11_wrong vc11 (ct_X11_wrong 0 (Nat.le_refl _) hS  hF16) rfl rfl (Nat.le_trans (by decide) hd) (sk310 hS) (sn310 hS) (Nat.le_of_ble_eq_true rfl) (fun _ => ?_)
      refine wp_goto (tgt := 73) dX11_nodeBut_22 (by decide) ?_
      cases h
      exact wp_pick (ks := [0]) rfl hJ
  · have h := ite_t hc3 h
    refine wp_iconst (v := 0) dX11_nodeBut_7 (by decide) ?_
    exact wp_iret dX11_nodeBut_8 rfl (by obtain rfl := sji h; exact ⟨rfl, rfl, rfl, rfl⟩)
def mX11_begins (N : Nat) (a2 : Int32) (I : gI) (J : gJ) : Option (Int32 × gI × gJ) := Option.bind (if a2 = 0 then (some I) else (Option.bind (mX11_wrong 2 I) (fun I3 => some I3)) : Option (gI)) (fun I1 => Option.bind (mX11_isGood I1) (fun r5 => if r5 = 0 then (some (0, I1, J)) else (Option.bind (mX11_goes N I1 J) (fun (I8, J9) => some (1, I8, J9)))))
set_option maxHeartbeats 4000000 in
set_option maxRecDepth 100000 in
theorem ct_X11_begins (N : Nat) (d : Nat) (hd : 2 ≤ d) {S : gS} {J : gJ} (hS : Sh S)  {a2 : Int32} {I : gI} {r : Int32 × gI × gJ} (h : mX11_begins N a2 I J = some r) : Ct yX11_begins (wsY yX11_begins cX11_begins 2 (some .boolean)) d 0 0 [.ref 310, .int a2] S I J (qE (.inl (some (.int r.1))) S r.2.1 r.2.2) := by
  refine Ct.of hF (fun _ _ _ _ _ => trivial) (by decide +kernel) (Nat.le_of_ble_eq_true rfl) ⟨Or.inl (sn310 hS), trivial, trivial⟩ ?_
  show Wp RX11 cX11_begins 2 (some .boolean) [] hF d 0 0 0 [(0, .ref 310), (1, .int a2)] [] S I J _
  unfold mX11_begins at h
  refine wp_iload_n dX11_begins_0 rfl rfl ?_
  obtain ⟨I1, hh11, h⟩ := obi h
  have hJ : Wp RX11 cX11_begins 2 (some .boolean) [] hF d 0 0 9 [(0, .ref 310)] [] S I1 J (qE (.inl (some (.int r.1))) S r.2.1 r.2.2) := by
    refine wp_aload_n dX11_begins_9 rfl rfl ?_
    obtain ⟨r5, hF6, h⟩ := obi h
    refine wp_callVi (ci := 11) (As := []) dX11_begins_10 lbX11_isGood mlX11_144 imX11_isGood seX11_isGood vc11 (ct_X11_isGood 0 (Nat.le_refl _) hS  hF6) rfl rfl (Nat.le_trans (by decide) hd) (sk310 hS) (sn310 hS) (Nat.le_of_ble_eq_true rfl) (fun _ => ?_)
    refine wp_if_ne (tgt := 18) dX11_begins_13 (by decide) (fun hc7 => ?_) (fun hc7 => ?_)
    · have h := ite_f hc7 h
      refine wp_aload_n dX11_begins_18 rfl rfl ?_
      obtain ⟨⟨I8, J9⟩, hF10, h⟩ := obi h
      refine wp_callVv (ci := 11) (As := []) dX11_begins_19 lbX11_goes mlX11_148 imX11_goes seX11_goes vc11 (ct_X11_goes N 1 (Nat.le_refl _) hS  hF10) rfl rfl (Nat.le_trans (by decide) hd) (sk310 hS) (sn310 hS) (Nat.le_of_ble_eq_true rfl) (fun _ => ?_)
      refine wp_iconst (v := 1) dX11_begins_22 (by decide) ?_
      exact wp_zret dX11_begins_23 rfl (by decide) (by obtain rfl := sji h; exact ⟨rfl, rfl, rfl, rfl⟩)
    · have h := ite_t hc7 h
      refine wp_iconst (v := 0) dX11_begins_16 (by decide) ?_
      exact wp_zret dX11_begins_17 rfl (by decide) (by obtain rfl := sji h; exact ⟨rfl, rfl, rfl, rfl⟩)
  clear h
  have h := hh11
  clear hh11
  refine wp_if_eq (tgt := 9) dX11_begins_1 (by decide) (fun hc2 => ?_) (fun hc2 => ?_)
  · have h := ite_t hc2 h
    cases h
    exact wp_pick (ks := [0]) rfl hJ
  · have h := ite_f hc2 h
    refine wp_aload_n dX11_begins_4 rfl rfl ?_
    refine wp_iconst (v := 2) dX11_begins_5 (by decide) ?_
    obtain ⟨I3, hF4, h⟩ := obi h
    refine wp_callVv (ci := 11) (As := [.int 2]) dX11_begins_6 lbX11_wrong mlX11_151 imX11_wrong seX11_wrong vc11 (ct_X11_wrong 0 (Nat.le_refl _) hS  hF4) rfl rfl (Nat.le_trans (by decide) hd) (sk310 hS) (sn310 hS) (Nat.le_of_ble_eq_true rfl) (fun _ => ?_)
    cases h
    exact wp_pick (ks := [0]) rfl hJ
def mX11_readsLink (N : Nat) (I : gI) (J : gJ) : Option (gI × gJ) := Option.bind (mX11_nodeBut N (-1) I J) (fun (r1, I2, J3) => ck (5 * (I 310 17)) 80 (nm ((upd2 I2 314 (5 * (I 310 17)).toNatClampNeg r1) 314 (5 * (I 310 17)).toNatClampNeg) (fun x6 => Option.bind (mX11_nodeBut N x6 (upd2 I2 314 (5 * (I 310 17)).toNatClampNeg r1) J3) (fun (r8, I9, J10) => ck ((5 * (I 310 17)) + 1) 80 (Option.bind (mX11_number N 1 99 (upd2 I9 314 ((5 * (I 310 17)) + 1).toNatClampNeg r8) J10) (fun (r13, I14, J15) => ck ((5 * (I 310 17)) + 2) 80 (Option.bind (mX11_number N 1 99 (upd2 I14 314 ((5 * (I 310 17)) + 2).toNatClampNeg r13) J15) (fun (r18, I19, J20) => ck ((5 * (I 310 17)) + 3) 80 (Option.bind (mX11_isGood (upd2 I19 314 ((5 * (I 310 17)) + 3).toNatClampNeg r18)) (fun r23 => Option.bind (if r23 = 0 then (some (0, upd2 I19 314 ((5 * (I 310 17)) + 3).toNatClampNeg r18, J20)) else (nm ((upd2 I19 314 ((5 * (I 310 17)) + 3).toNatClampNeg r18) 310 8) (fun x29 => if x29 = 2 then (Option.bind (mX11_number N 0 15 (upd2 I19 314 ((5 * (I 310 17)) + 3).toNatClampNeg r18) J20) (fun (r32, I33, J34) => some (r32, I33, J34))) else (some (0, upd2 I19 314 ((5 * (I 310 17)) + 3).toNatClampNeg r18, J20)))) : Option (Int32 × gI × gJ)) (fun (x25, I26, J27) => ck ((5 * (I 310 17)) + 4) 80 (Option.bind (mX11_isGood (upd2 I26 314 ((5 * (I 310 17)) + 4).toNatClampNeg x25)) (fun r37 => if r37 = 0 then (some (upd2 I26 314 ((5 * (I 310 17)) + 4).toNatClampNeg x25, J27)) else (nm ((upd2 I26 314 ((5 * (I 310 17)) + 4).toNatClampNeg x25) 310 17) (fun x40 => nm (upd2 (upd2 I26 314 ((5 * (I 310 17)) + 4).toNatClampNeg x25) 310 17 (x40 + 1)) (fun I42 => some (I42, J27)))))))))))))))))
set_option maxHeartbeats 4000000 in
set_option maxRecDepth 100000 in
theorem ct_X11_readsLink (N : Nat) (d : Nat) (hd : 3 ≤ d) {S : gS} {J : gJ} (hS : Sh S)  {I : gI} {r : gI × gJ} (h : mX11_readsLink N I J = some r) : Ct yX11_readsLink (wsY yX11_readsLink cX11_readsLink 2 none) d 0 0 [.ref 310] S I J (qE (.inl none) S r.1 r.2) := by
  refine Ct.of hF (fun _ _ _ _ _ => trivial) (by decide +kernel) (Nat.le_of_ble_eq_true rfl) ⟨Or.inl (sn310 hS), trivial⟩ ?_
  show Wp RX11 cX11_readsLink 2 none [] hF d 0 0 0 [(0, .ref 310)] [] S I J _
  unfold mX11_readsLink at h
  refine wp_iconst (v := 5) dX11_readsLink_0 (by decide) ?_
  refine wp_aload_n dX11_readsLink_1 rfl rfl ?_
  refine wp_getI dX11_readsLink_2 flX11_157 rfl (sk310 hS) (sn310 hS) ?_
  refine wp_imul dX11_readsLink_5 ?_
  refine wp_istore_n (ls' := [(1, .int (5 * (I 310 17))), (0, .ref 310)]) dX11_readsLink_6 rfl (Nat.le_of_ble_eq_true rfl) rfl ?_
  refine wp_aload_n dX11_readsLink_7 rfl rfl ?_
  refine wp_getR dX11_readsLink_8 flX11_26 rfl (sk310 hS) (sn310 hS) (sr310_20 hS) ?_
  refine wp_iload_n dX11_readsLink_11 rfl rfl ?_
  refine wp_aload_n dX11_readsLink_12 rfl rfl ?_
  refine wp_iconst (v := (-1)) dX11_readsLink_13 (by decide) ?_
  obtain ⟨⟨r1, I2, J3⟩, hF4, h⟩ := obi h
  refine wp_callVi (ci := 11) (As := [.int (-1)]) dX11_readsLink_14 lbX11_nodeBut mlX11_160 imX11_nodeBut seX11_nodeBut vc11 (ct_X11_nodeBut N 2 (Nat.le_refl _) hS  hF4) rfl rfl (Nat.le_trans (by decide) hd) (sk310 hS) (sn310 hS) (Nat.le_of_ble_eq_true rfl) (fun _ => ?_)
  obtain ⟨hb5, h⟩ := ck_inv h
  refine wp_iast dX11_readsLink_17 (sk314 hS) (sn314 hS) hb5 ?_
  refine wp_aload_n dX11_readsLink_18 rfl rfl ?_
  refine wp_getR dX11_readsLink_19 flX11_26 rfl (sk310 hS) (sn310 hS) (sr310_20 hS) ?_
  refine wp_iload_n dX11_readsLink_22 rfl rfl ?_
  refine wp_iconst (v := 1) dX11_readsLink_23 (by decide) ?_
  refine wp_iadd dX11_readsLink_24 ?_
  refine wp_aload_n dX11_readsLink_25 rfl rfl ?_
  refine wp_aload_n dX11_readsLink_26 rfl rfl ?_
  refine wp_getR dX11_readsLink_27 flX11_26 rfl (sk310 hS) (sn310 hS) (sr310_20 hS) ?_
  refine wp_iload_n dX11_readsLink_30 rfl rfl ?_
  refine wp_iald dX11_readsLink_31 (sk314 hS) (sn314 hS) hb5 ?_
  obtain ⟨x6, hx7, h⟩ := nm_inv h
  refine wp_topi hx7 ?_
  obtain ⟨⟨r8, I9, J10⟩, hF11, h⟩ := obi h
  refine wp_callVi (ci := 11) (As := [.int x6]) dX11_readsLink_32 lbX11_nodeBut mlX11_160 imX11_nodeBut seX11_nodeBut vc11 (ct_X11_nodeBut N 2 (Nat.le_refl _) hS  hF11) rfl rfl (Nat.le_trans (by decide) hd) (sk310 hS) (sn310 hS) (Nat.le_of_ble_eq_true rfl) (fun _ => ?_)
  obtain ⟨hb12, h⟩ := ck_inv h
  refine wp_iast dX11_readsLink_35 (sk314 hS) (sn314 hS) hb12 ?_
  refine wp_aload_n dX11_readsLink_36 rfl rfl ?_
  refine wp_getR dX11_readsLink_37 flX11_26 rfl (sk310 hS) (sn310 hS) (sr310_20 hS) ?_
  refine wp_iload_n dX11_readsLink_40 rfl rfl ?_
  refine wp_iconst (v := 2) dX11_readsLink_41 (by decide) ?_
  refine wp_iadd dX11_readsLink_42 ?_
  refine wp_aload_n dX11_readsLink_43 rfl rfl ?_
  refine wp_iconst (v := 1) dX11_readsLink_44 (by decide) ?_
  refine wp_bipush (v := 99) dX11_readsLink_45 (by decide) ?_
  obtain ⟨⟨r13, I14, J15⟩, hF16, h⟩ := obi h
  refine wp_callVi (ci := 11) (As := [.int 1, .int 99]) dX11_readsLink_47 lbX11_number mlX11_163 imX11_number seX11_number vc11 (ct_X11_number N 2 (Nat.le_refl _) hS  hF16) rfl rfl (Nat.le_trans (by decide) hd) (sk310 hS) (sn310 hS) (Nat.le_of_ble_eq_true rfl) (fun _ => ?_)
  obtain ⟨hb17, h⟩ := ck_inv h
  refine wp_iast dX11_readsLink_50 (sk314 hS) (sn314 hS) hb17 ?_
  refine wp_aload_n dX11_readsLink_51 rfl rfl ?_
  refine wp_getR dX11_readsLink_52 flX11_26 rfl (sk310 hS) (sn310 hS) (sr310_20 hS) ?_
  refine wp_iload_n dX11_readsLink_55 rfl rfl ?_
  refine wp_iconst (v := 3) dX11_readsLink_56 (by decide) ?_
  refine wp_iadd dX11_readsLink_57 ?_
  refine wp_aload_n dX11_readsLink_58 rfl rfl ?_
  refine wp_iconst (v := 1) dX11_readsLink_59 (by decide) ?_
  refine wp_bipush (v := 99) dX11_readsLink_60 (by decide) ?_
  obtain ⟨⟨r18, I19, J20⟩, hF21, h⟩ := obi h
  refine wp_callVi (ci := 11) (As := [.int 1, .int 99]) dX11_readsLink_62 lbX11_number mlX11_163 imX11_number seX11_number vc11 (ct_X11_number N 2 (Nat.le_refl _) hS  hF21) rfl rfl (Nat.le_trans (by decide) hd) (sk310 hS) (sn310 hS) (Nat.le_of_ble_eq_true rfl) (fun _ => ?_)
  obtain ⟨hb22, h⟩ := ck_inv h
  refine wp_iast dX11_readsLink_65 (sk314 hS) (sn314 hS) hb22 ?_
  refine wp_aload_n dX11_readsLink_66 rfl rfl ?_
  refine wp_getR dX11_readsLink_67 flX11_26 rfl (sk310 hS) (sn310 hS) (sr310_20 hS) ?_
  refine wp_iload_n dX11_readsLink_70 rfl rfl ?_
  refine wp_iconst (v := 4) dX11_readsLink_71 (by decide) ?_
  refine wp_iadd dX11_readsLink_72 ?_
  refine wp_aload_n dX11_readsLink_73 rfl rfl ?_
  obtain ⟨r23, hF24, h⟩ := obi h
  refine wp_callVi (ci := 11) (As := []) dX11_readsLink_74 lbX11_isGood mlX11_144 imX11_isGood seX11_isGood vc11 (ct_X11_isGood 0 (Nat.le_refl _) hS  hF24) rfl rfl (Nat.le_trans (by decide) hd) (sk310 hS) (sn310 hS) (Nat.le_of_ble_eq_true rfl) (fun _ => ?_)
  obtain ⟨⟨x25, I26, J27⟩, hh44, h⟩ := obi h
  have hJ : Wp RX11 cX11_readsLink 2 none [] hF d 0 0 99 [(0, .ref 310)] [.int x25, .int ((5 * (I 310 17)) + 4), .ref 314] S I26 J27 (qE (.inl none) S r.1 r.2) := by
    obtain ⟨hb36, h⟩ := ck_inv h
    refine wp_iast dX11_readsLink_99 (sk314 hS) (sn314 hS) hb36 ?_
    refine wp_aload_n dX11_readsLink_100 rfl rfl ?_
    obtain ⟨r37, hF38, h⟩ := obi h
    refine wp_callVi (ci := 11) (As := []) dX11_readsLink_101 lbX11_isGood mlX11_144 imX11_isGood seX11_isGood vc11 (ct_X11_isGood 0 (Nat.le_refl _) hS  hF38) rfl rfl (Nat.le_trans (by decide) hd) (sk310 hS) (sn310 hS) (Nat.le_of_ble_eq_true rfl) (fun _ => ?_)
    refine wp_if_eq (tgt := 117) dX11_readsLink_104 (by decide) (fun hc39 => ?_) (fun hc39 => ?_)
    · have h := ite_t hc39 h
      exact wp_vret dX11_readsLink_117 rfl (by obtain rfl := sji h; exact ⟨rfl, rfl, rfl, rfl⟩)
    · have h := ite_f hc39 h
      refine wp_aload_n dX11_readsLink_107 rfl rfl ?_
      refine wp_dup dX11_readsLink_108 rfl ?_
      refine wp_getI dX11_readsLink_109 flX11_157 rfl (sk310 hS) (sn310 hS) ?_
      obtain ⟨x40, hx41, h⟩ := nm_inv h
      refine wp_topi hx41 ?_
      refine wp_iconst (v := 1) dX11_readsLink_112 (by decide) ?_
      refine wp_iadd dX11_readsLink_113 ?_
      refine wp_putI dX11_readsLink_114 (Or.inl fpX11_157) rfl ⟨rfl, rfl⟩ (sk310 hS) (sn310 hS) ?_
      obtain ⟨I42, hx43, h⟩ := nm_inv h
      refine wp_nmI hx43 ?_
      exact wp_vret dX11_readsLink_117 rfl (by obtain rfl := sji h; exact ⟨rfl, rfl, rfl, rfl⟩)
  clear h
  have h := hh44
  clear hh44
  refine wp_if_eq (tgt := 98) dX11_readsLink_77 (by decide) (fun hc28 => ?_) (fun hc28 => ?_)
  · have h := ite_t hc28 h
    refine wp_iconst (v := 0) dX11_readsLink_98 (by decide) ?_
    cases h
    exact wp_pick (ks := [1]) rfl hJ
  · have h := ite_f hc28 h
    refine wp_aload_n dX11_readsLink_80 rfl rfl ?_
    refine wp_getI dX11_readsLink_81 flX11_126 rfl (sk310 hS) (sn310 hS) ?_
    obtain ⟨x29, hx30, h⟩ := nm_inv h
    refine wp_topi hx30 ?_
    refine wp_iconst (v := 2) dX11_readsLink_84 (by decide) ?_
    refine wp_icmp_ne (tgt := 98) dX11_readsLink_85 (by decide) (fun hc31 => ?_) (fun hc31 => ?_)
    · have h := ite_f hc31 h
      refine wp_iconst (v := 0) dX11_readsLink_98 (by decide) ?_
      cases h
      exact wp_pick (ks := [1]) rfl hJ
    · have h := ite_t hc31 h
      refine wp_aload_n dX11_readsLink_88 rfl rfl ?_
      refine wp_iconst (v := 0) dX11_readsLink_89 (by decide) ?_
      refine wp_bipush (v := 15) dX11_readsLink_90 (by decide) ?_
      obtain ⟨⟨r32, I33, J34⟩, hF35, h⟩ := obi h
      refine wp_callVi (ci := 11) (As := [.int 0, .int 15]) dX11_readsLink_92 lbX11_number mlX11_163 imX11_number seX11_number vc11 (ct_X11_number N 2 (Nat.le_refl _) hS  hF35) rfl rfl (Nat.le_trans (by decide) hd) (sk310 hS) (sn310 hS) (Nat.le_of_ble_eq_true rfl) (fun _ => ?_)
      refine wp_goto (tgt := 99) dX11_readsLink_95 (by decide) ?_
      cases h
      exact wp_pick (ks := [1]) rfl hJ
def mX11_readsTunnel (N : Nat) (I : gI) (J : gJ) : Option (gI × gJ) := Option.bind (mX11_nodeBut N (-1) I J) (fun (r1, I2, J3) => ck (7 * (I 310 18)) 63 (nm ((upd2 I2 316 (7 * (I 310 18)).toNatClampNeg r1) 316 (7 * (I 310 18)).toNatClampNeg) (fun x6 => Option.bind (mX11_nodeBut N x6 (upd2 I2 316 (7 * (I 310 18)).toNatClampNeg r1) J3) (fun (r8, I9, J10) => ck ((7 * (I 310 18)) + 1) 63 (Option.bind (mX11_number N 1 99 (upd2 I9 316 ((7 * (I 310 18)) + 1).toNatClampNeg r8) J10) (fun (r13, I14, J15) => ck ((7 * (I 310 18)) + 2) 63 (Option.bind (mX11_number N 0 7 (upd2 I14 316 ((7 * (I 310 18)) + 2).toNatClampNeg r13) J15) (fun (r18, I19, J20) => ck ((7 * (I 310 18)) + 3) 63 (nm ((upd2 I19 316 ((7 * (I 310 18)) + 3).toNatClampNeg r18) 316 ((7 * (I 310 18)) + 3).toNatClampNeg) (fun x23 => Option.bind (mX11_number N 0 x23 (upd2 I19 316 ((7 * (I 310 18)) + 3).toNatClampNeg r18) J20) (fun (r25, I26, J27) => ck ((7 * (I 310 18)) + 4) 63 (ck ((7 * (I 310 18)) + 5) 63 (nm (upd2 (upd2 I26 316 ((7 * (I 310 18)) + 4).toNatClampNeg r25) 316 ((7 * (I 310 18)) + 5).toNatClampNeg 0) (fun I31 => ck ((7 * (I 310 18)) + 6) 63 (Option.bind (mX11_isGood (upd2 I31 316 ((7 * (I 310 18)) + 6).toNatClampNeg 7)) (fun r34 => Option.bind (if r34 = 0 then (some (upd2 I31 316 ((7 * (I 310 18)) + 6).toNatClampNeg 7, J27)) else (nm ((upd2 I31 316 ((7 * (I 310 18)) + 6).toNatClampNeg 7) 310 8) (fun x39 => if x39 = 2 then (Option.bind (mX11_number N 0 15 (upd2 I31 316 ((7 * (I 310 18)) + 6).toNatClampNeg 7) J27) (fun (r42, I43, J44) => Option.bind (mX11_isGood (upd2 I43 316 ((7 * (I 310 18)) + 5).toNatClampNeg r42)) (fun r46 => if r46 = 0 then (some (upd2 I43 316 ((7 * (I 310 18)) + 5).toNatClampNeg r42, J44)) else (nm ((upd2 I43 316 ((7 * (I 310 18)) + 5).toNatClampNeg r42) 310 8) (fun x49 => if x49 = 2 then (Option.bind (mX11_number N 1 7 (upd2 I43 316 ((7 * (I 310 18)) + 5).toNatClampNeg r42) J44) (fun (r52, I53, J54) => some (upd2 I53 316 ((7 * (I 310 18)) + 6).toNatClampNeg r52, J54))) else (some (upd2 I43 316 ((7 * (I 310 18)) + 5).toNatClampNeg r42, J44))))))) else (some (upd2 I31 316 ((7 * (I 310 18)) + 6).toNatClampNeg 7, J27)))) : Option (gI × gJ)) (fun (I36, J37) => Option.bind (mX11_isGood I36) (fun r56 => if r56 = 0 then (some (I36, J37)) else (some (upd2 I36 310 18 ((I36 310 18) + 1), J37))))))))))))))))))))
set_option maxHeartbeats 4000000 in
set_option maxRecDepth 100000 in
theorem ct_X11_readsTunnel (N : Nat) (d : Nat) (hd : 3 ≤ d) {S : gS} {J : gJ} (hS : Sh S)  {I : gI} {r : gI × gJ} (h : mX11_readsTunnel N I J = some r) : Ct yX11_readsTunnel (wsY yX11_readsTunnel cX11_readsTunnel 2 none) d 0 0 [.ref 310] S I J (qE (.inl none) S r.1 r.2) := by
  refine Ct.of hF (fun _ _ _ _ _ => trivial) (by decide +kernel) (Nat.le_of_ble_eq_true rfl) ⟨Or.inl (sn310 hS), trivial⟩ ?_
  show Wp RX11 cX11_readsTunnel 2 none [] hF d 0 0 0 [(0, .ref 310)] [] S I J _
  unfold mX11_readsTunnel at h
  refine wp_bipush (v := 7) dX11_readsTunnel_0 (by decide) ?_
  refine wp_aload_n dX11_readsTunnel_2 rfl rfl ?_
  refine wp_getI dX11_readsTunnel_3 flX11_167 rfl (sk310 hS) (sn310 hS) ?_
  refine wp_imul dX11_readsTunnel_6 ?_
  refine wp_istore_n (ls' := [(1, .int (7 * (I 310 18))), (0, .ref 310)]) dX11_readsTunnel_7 rfl (Nat.le_of_ble_eq_true rfl) rfl ?_
  refine wp_aload_n dX11_readsTunnel_8 rfl rfl ?_
  refine wp_getR dX11_readsTunnel_9 flX11_32 rfl (sk310 hS) (sn310 hS) (sr310_22 hS) ?_
  refine wp_iload_n dX11_readsTunnel_12 rfl rfl ?_
  refine wp_aload_n dX11_readsTunnel_13 rfl rfl ?_
  refine wp_iconst (v := (-1)) dX11_readsTunnel_14 (by decide) ?_
  obtain ⟨⟨r1, I2, J3⟩, hF4, h⟩ := obi h
  refine wp_callVi (ci := 11) (As := [.int (-1)]) dX11_readsTunnel_15 lbX11_nodeBut mlX11_160 imX11_nodeBut seX11_nodeBut vc11 (ct_X11_nodeBut N 2 (Nat.le_refl _) hS  hF4) rfl rfl (Nat.le_trans (by decide) hd) (sk310 hS) (sn310 hS) (Nat.le_of_ble_eq_true rfl) (fun _ => ?_)
  obtain ⟨hb5, h⟩ := ck_inv h
  refine wp_iast dX11_readsTunnel_18 (sk316 hS) (sn316 hS) hb5 ?_
  refine wp_aload_n dX11_readsTunnel_19 rfl rfl ?_
  refine wp_getR dX11_readsTunnel_20 flX11_32 rfl (sk310 hS) (sn310 hS) (sr310_22 hS) ?_
  refine wp_iload_n dX11_readsTunnel_23 rfl rfl ?_
  refine wp_iconst (v := 1) dX11_readsTunnel_24 (by decide) ?_
  refine wp_iadd dX11_readsTunnel_25 ?_
  refine wp_aload_n dX11_readsTunnel_26 rfl rfl ?_
  refine wp_aload_n dX11_readsTunnel_27 rfl rfl ?_
  refine wp_getR dX11_readsTunnel_28 flX11_32 rfl (sk310 hS) (sn310 hS) (sr310_22 hS) ?_
  refine wp_iload_n dX11_readsTunnel_31 rfl rfl ?_
  refine wp_iald dX11_readsTunnel_32 (sk316 hS) (sn316 hS) hb5 ?_
  obtain ⟨x6, hx7, h⟩ := nm_inv h
  refine wp_topi hx7 ?_
  obtain ⟨⟨r8, I9, J10⟩, hF11, h⟩ := obi h
  refine wp_callVi (ci := 11) (As := [.int x6]) dX11_readsTunnel_33 lbX11_nodeBut mlX11_160 imX11_nodeBut seX11_nodeBut vc11 (ct_X11_nodeBut N 2 (Nat.le_refl _) hS  hF11) rfl rfl (Nat.le_trans (by decide) hd) (sk310 hS) (sn310 hS) (Nat.le_of_ble_eq_true rfl) (fun _ => ?_)
  obtain ⟨hb12, h⟩ := ck_inv h
  refine wp_iast dX11_readsTunnel_36 (sk316 hS) (sn316 hS) hb12 ?_
  refine wp_aload_n dX11_readsTunnel_37 rfl rfl ?_
  refine wp_getR dX11_readsTunnel_38 flX11_32 rfl (sk310 hS) (sn310 hS) (sr310_22 hS) ?_
  refine wp_iload_n dX11_readsTunnel_41 rfl rfl ?_
  refine wp_iconst (v := 2) dX11_readsTunnel_42 (by decide) ?_
  refine wp_iadd dX11_readsTunnel_43 ?_
  refine wp_aload_n dX11_readsTunnel_44 rfl rfl ?_
  refine wp_iconst (v := 1) dX11_readsTunnel_45 (by decide) ?_
  refine wp_bipush (v := 99) dX11_readsTunnel_46 (by decide) ?_
  obtain ⟨⟨r13, I14, J15⟩, hF16, h⟩ := obi h
  refine wp_callVi (ci := 11) (As := [.int 1, .int 99]) dX11_readsTunnel_48 lbX11_number mlX11_163 imX11_number seX11_number vc11 (ct_X11_number N 2 (Nat.le_refl _) hS  hF16) rfl rfl (Nat.le_trans (by decide) hd) (sk310 hS) (sn310 hS) (Nat.le_of_ble_eq_true rfl) (fun _ => ?_)
  obtain ⟨hb17, h⟩ := ck_inv h
  refine wp_iast dX11_readsTunnel_51 (sk316 hS) (sn316 hS) hb17 ?_
  refine wp_aload_n dX11_readsTunnel_52 rfl rfl ?_
  refine wp_getR dX11_readsTunnel_53 flX11_32 rfl (sk310 hS) (sn310 hS) (sr310_22 hS) ?_
  refine wp_iload_n dX11_readsTunnel_56 rfl rfl ?_
  refine wp_iconst (v := 3) dX11_readsTunnel_57 (by decide) ?_
  refine wp_iadd dX11_readsTunnel_58 ?_
  refine wp_aload_n dX11_readsTunnel_59 rfl rfl ?_
  refine wp_iconst (v := 0) dX11_readsTunnel_60 (by decide) ?_
  refine wp_bipush (v := 7) dX11_readsTunnel_61 (by decide) ?_
  obtain ⟨⟨r18, I19, J20⟩, hF21, h⟩ := obi h
  refine wp_callVi (ci := 11) (As := [.int 0, .int 7]) dX11_readsTunnel_63 lbX11_number mlX11_163 imX11_number seX11_number vc11 (ct_X11_number N 2 (Nat.le_refl _) hS  hF21) rfl rfl (Nat.le_trans (by decide) hd) (sk310 hS) (sn310 hS) (Nat.le_of_ble_eq_true rfl) (fun _ => ?_)
  obtain ⟨hb22, h⟩ := ck_inv h
  refine wp_iast dX11_readsTunnel_66 (sk316 hS) (sn316 hS) hb22 ?_
  refine wp_aload_n dX11_readsTunnel_67 rfl rfl ?_
  refine wp_getR dX11_readsTunnel_68 flX11_32 rfl (sk310 hS) (sn310 hS) (sr310_22 hS) ?_
  refine wp_iload_n dX11_readsTunnel_71 rfl rfl ?_
  refine wp_iconst (v := 4) dX11_readsTunnel_72 (by decide) ?_
  refine wp_iadd dX11_readsTunnel_73 ?_
  refine wp_aload_n dX11_readsTunnel_74 rfl rfl ?_
  refine wp_iconst (v := 0) dX11_readsTunnel_75 (by decide) ?_
  refine wp_aload_n dX11_readsTunnel_76 rfl rfl ?_
  refine wp_getR dX11_readsTunnel_77 flX11_32 rfl (sk310 hS) (sn310 hS) (sr310_22 hS) ?_
  refine wp_iload_n dX11_readsTunnel_80 rfl rfl ?_
  refine wp_iconst (v := 3) dX11_readsTunnel_81 (by decide) ?_
  refine wp_iadd dX11_readsTunnel_82 ?_
  refine wp_iald dX11_readsTunnel_83 (sk316 hS) (sn316 hS) hb22 ?_
  obtain ⟨x23, hx24, h⟩ := nm_inv h
  refine wp_topi hx24 ?_
  obtain ⟨⟨r25, I26, J27⟩, hF28, h⟩ := obi h
  refine wp_callVi (ci := 11) (As := [.int 0, .int x23]) dX11_readsTunnel_84 lbX11_number mlX11_163 imX11_number seX11_number vc11 (ct_X11_number N 2 (Nat.le_refl _) hS  hF28) rfl rfl (Nat.le_trans (by decide) hd) (sk310 hS) (sn310 hS) (Nat.le_of_ble_eq_true rfl) (fun _ => ?_)
  obtain ⟨hb29, h⟩ := ck_inv h
  refine wp_iast dX11_readsTunnel_87 (sk316 hS) (sn316 hS) hb29 ?_
  refine wp_aload_n dX11_readsTunnel_88 rfl rfl ?_
  refine wp_getR dX11_readsTunnel_89 flX11_32 rfl (sk310 hS) (sn310 hS) (sr310_22 hS) ?_
  refine wp_iload_n dX11_readsTunnel_92 rfl rfl ?_
  refine wp_iconst (v := 5) dX11_readsTunnel_93 (by decide) ?_
  refine wp_iadd dX11_readsTunnel_94 ?_
  refine wp_iconst (v := 0) dX11_readsTunnel_95 (by decide) ?_
  obtain ⟨hb30, h⟩ := ck_inv h
  refine wp_iast dX11_readsTunnel_96 (sk316 hS) (sn316 hS) hb30 ?_
  obtain ⟨I31, hx32, h⟩ := nm_inv h
  refine wp_nmI hx32 ?_
  refine wp_aload_n dX11_readsTunnel_97 rfl rfl ?_
  refine wp_getR dX11_readsTunnel_98 flX11_32 rfl (sk310 hS) (sn310 hS) (sr310_22 hS) ?_
  refine wp_iload_n dX11_readsTunnel_101 rfl rfl ?_
  refine wp_bipush (v := 6) dX11_readsTunnel_102 (by decide) ?_
  refine wp_iadd dX11_readsTunnel_104 ?_
  refine wp_bipush (v := 7) dX11_readsTunnel_105 (by decide) ?_
  obtain ⟨hb33, h⟩ := ck_inv h
  refine wp_iast dX11_readsTunnel_107 (sk316 hS) (sn316 hS) hb33 ?_
  refine wp_aload_n dX11_readsTunnel_108 rfl rfl ?_
  obtain ⟨r34, hF35, h⟩ := obi h
  refine wp_callVi (ci := 11) (As := []) dX11_readsTunnel_109 lbX11_isGood mlX11_144 imX11_isGood seX11_isGood vc11 (ct_X11_isGood 0 (Nat.le_refl _) hS  hF35) rfl rfl (Nat.le_trans (by decide) hd) (sk310 hS) (sn310 hS) (Nat.le_of_ble_eq_true rfl) (fun _ => ?_)
  obtain ⟨⟨I36, J37⟩, hh59, h⟩ := obi h
  have hJ : Wp RX11 cX11_readsTunnel 2 none [] hF d 0 0 169 [(0, .ref 310)] [] S I36 J37 (qE (.inl none) S r.1 r.2) := by
    refine wp_aload_n dX11_readsTunnel_169 rfl rfl ?_
    obtain ⟨r56, hF57, h⟩ := obi h
    refine wp_callVi (ci := 11) (As := []) dX11_readsTunnel_170 lbX11_isGood mlX11_144 imX11_isGood seX11_isGood vc11 (ct_X11_isGood 0 (Nat.le_refl _) hS  hF57) rfl rfl (Nat.le_trans (by decide) hd) (sk310 hS) (sn310 hS) (Nat.le_of_ble_eq_true rfl) (fun _ => ?_)
    refine wp_if_eq (tgt := 186) dX11_readsTunnel_173 (by decide) (fun hc58 => ?_) (fun hc58 => ?_)
    · have h := ite_t hc58 h
      exact wp_vret dX11_readsTunnel_186 rfl (by obtain rfl := sji h; exact ⟨rfl, rfl, rfl, rfl⟩)
    · have h := ite_f hc58 h
      refine wp_aload_n dX11_readsTunnel_176 rfl rfl ?_
      refine wp_dup dX11_readsTunnel_177 rfl ?_
      refine wp_getI dX11_readsTunnel_178 flX11_167 rfl (sk310 hS) (sn310 hS) ?_
      refine wp_iconst (v := 1) dX11_readsTunnel_181 (by decide) ?_
      refine wp_iadd dX11_readsTunnel_182 ?_
      refine wp_putI dX11_readsTunnel_183 (Or.inl fpX11_167) rfl ⟨rfl, rfl⟩ (sk310 hS) (sn310 hS) ?_
      exact wp_vret dX11_readsTunnel_186 rfl (by obtain rfl := sji h; exact ⟨rfl, rfl, rfl, rfl⟩)
  clear h
  have h := hh59
  clear hh59
  refine wp_if_eq (tgt := 169) dX11_readsTunnel_112 (by decide) (fun hc38 => ?_) (fun hc38 => ?_)
  · have h := ite_t hc38 h
    cases h
    exact wp_pick (ks := [1]) rfl hJ
  · have h := ite_f hc38 h
    refine wp_aload_n dX11_readsTunnel_115 rfl rfl ?_
    refine wp_getI dX11_readsTunnel_116 flX11_126 rfl (sk310 hS) (sn310 hS) ?_
    obtain ⟨x39, hx40, h⟩ := nm_inv h
    refine wp_topi hx40 ?_
    refine wp_iconst (v := 2) dX11_readsTunnel_119 (by decide) ?_
    refine wp_icmp_ne (tgt := 169) dX11_readsTunnel_120 (by decide) (fun hc41 => ?_) (fun hc41 => ?_)
    · have h := ite_f hc41 h
      cases h
      exact wp_pick (ks := [1]) rfl hJ
    · have h := ite_t hc41 h
      refine wp_aload_n dX11_readsTunnel_123 rfl rfl ?_
      refine wp_getR dX11_readsTunnel_124 flX11_32 rfl (sk310 hS) (sn310 hS) (sr310_22 hS) ?_
      refine wp_iload_n dX11_readsTunnel_127 rfl rfl ?_
      refine wp_iconst (v := 5) dX11_readsTunnel_128 (by decide) ?_
      refine wp_iadd dX11_readsTunnel_129 ?_
      refine wp_aload_n dX11_readsTunnel_130 rfl rfl ?_
      refine wp_iconst (v := 0) dX11_readsTunnel_131 (by decide) ?_
      refine wp_bipush (v := 15) dX11_readsTunnel_132 (by decide) ?_
      obtain ⟨⟨r42, I43, J44⟩, hF45, h⟩ := obi h
      refine wp_callVi (ci := 11) (As := [.int 0, .int 15]) dX11_readsTunnel_134 lbX11_number mlX11_163 imX11_number seX11_number vc11 (ct_X11_number N 2 (Nat.le_refl _) hS  hF45) rfl rfl (Nat.le_trans (by decide) hd) (sk310 hS) (sn310 hS) (Nat.le_of_ble_eq_true rfl) (fun _ => ?_)
      refine wp_iast dX11_readsTunnel_137 (sk316 hS) (sn316 hS) hb30 ?_
      refine wp_aload_n dX11_readsTunnel_138 rfl rfl ?_
      obtain ⟨r46, hF47, h⟩ := obi h
      refine wp_callVi (ci := 11) (As := []) dX11_readsTunnel_139 lbX11_isGood mlX11_144 imX11_isGood seX11_isGood vc11 (ct_X11_isGood 0 (Nat.le_refl _) hS  hF47) rfl rfl (Nat.le_trans (by decide) hd) (sk310 hS) (sn310 hS) (Nat.le_of_ble_eq_true rfl) (fun _ => ?_)
      refine wp_if_eq (tgt := 169) dX11_readsTunnel_142 (by decide) (fun hc48 => ?_) (fun hc48 => ?_)
      · have h := ite_t hc48 h
        cases h
        exact wp_pick (ks := [1]) rfl hJ
      · have h := ite_f hc48 h
        refine wp_aload_n dX11_readsTunnel_145 rfl rfl ?_
        refine wp_getI dX11_readsTunnel_146 flX11_126 rfl (sk310 hS) (sn310 hS) ?_
        obtain ⟨x49, hx50, h⟩ := nm_inv h
        refine wp_topi hx50 ?_
        refine wp_iconst (v := 2) dX11_readsTunnel_149 (by decide) ?_
        refine wp_icmp_ne (tgt := 169) dX11_readsTunnel_150 (by decide) (fun hc51 => ?_) (fun hc51 => ?_)
        · have h := ite_f hc51 h
          cases h
          exact wp_pick (ks := [1]) rfl hJ
        · have h := ite_t hc51 h
          refine wp_aload_n dX11_readsTunnel_153 rfl rfl ?_
          refine wp_getR dX11_readsTunnel_154 flX11_32 rfl (sk310 hS) (sn310 hS) (sr310_22 hS) ?_
          refine wp_iload_n dX11_readsTunnel_157 rfl rfl ?_
          refine wp_bipush (v := 6) dX11_readsTunnel_158 (by decide) ?_
          refine wp_iadd dX11_readsTunnel_160 ?_
          refine wp_aload_n dX11_readsTunnel_161 rfl rfl ?_
          refine wp_iconst (v := 1) dX11_readsTunnel_162 (by decide) ?_
          refine wp_bipush (v := 7) dX11_readsTunnel_163 (by decide) ?_
          obtain ⟨⟨r52, I53, J54⟩, hF55, h⟩ := obi h
          refine wp_callVi (ci := 11) (As := [.int 1, .int 7]) dX11_readsTunnel_165 lbX11_number mlX11_163 imX11_number seX11_number vc11 (ct_X11_number N 2 (Nat.le_refl _) hS  hF55) rfl rfl (Nat.le_trans (by decide) hd) (sk310 hS) (sn310 hS) (Nat.le_of_ble_eq_true rfl) (fun _ => ?_)
          refine wp_iast dX11_readsTunnel_168 (sk316 hS) (sn316 hS) hb33 ?_
          cases h
          exact wp_pick (ks := [1]) rfl hJ
def mX11_line (N : Nat) (I : gI) (J : gJ) : Option (gI × gJ) := Option.bind (mX11_spelled 108 105 110 107 0 0 I) (fun r1 => Option.bind (mX11_isWord r1 4 I J) (fun r3 => Option.bind (if r3 = 0 then (Option.bind (mX11_spelled 116 117 110 110 101 108 I) (fun r8 => Option.bind (mX11_isWord r8 6 I J) (fun r10 => if r10 = 0 then (Option.bind (mX11_wrong 1 I) (fun I13 => some (I13, J))) else (Option.bind (if (I 310 18) = 9 then (some 1) else (some 0) : Option (Int32)) (fun x15 => Option.bind (mX11_begins N x15 I J) (fun (r17, I18, J19) => if r17 = 0 then (some (I18, J19)) else (Option.bind (mX11_readsTunnel N I18 J19) (fun (I22, J23) => some (I22, J23))))))))) else (Option.bind (if (I 310 17) = 16 then (some 1) else (some 0) : Option (Int32)) (fun x26 => Option.bind (mX11_begins N x26 I J) (fun (r28, I29, J30) => if r28 = 0 then (some (I29, J30)) else (Option.bind (mX11_readsLink N I29 J30) (fun (I33, J34) => some (I33, J34)))))) : Option (gI × gJ)) (fun (I5, J6) => Option.bind (if (I5 310 8) = 3 then (some 1) else (some 0) : Option (Int32)) (fun x37 => Option.bind (mX11_need N x37 I5 J6) (fun (I39, J40) => some (I39, J40))))))
set_option maxHeartbeats 4000000 in
set_option maxRecDepth 100000 in
theorem ct_X11_line (N : Nat) (d : Nat) (hd : 4 ≤ d) {S : gS} {J : gJ} (hS : Sh S)  {I : gI} {r : gI × gJ} (h : mX11_line N I J = some r) : Ct yX11_line (wsY yX11_line cX11_line 1 none) d 0 0 [.ref 310] S I J (qE (.inl none) S r.1 r.2) := by
  refine Ct.of hF (fun _ _ _ _ _ => trivial) (by decide +kernel) (Nat.le_of_ble_eq_true rfl) ⟨Or.inl (sn310 hS), trivial⟩ ?_
  show Wp RX11 cX11_line 1 none [] hF d 0 0 0 [(0, .ref 310)] [] S I J _
  unfold mX11_line at h
  refine wp_aload_n dX11_line_0 rfl rfl ?_
  refine wp_bipush (v := 108) dX11_line_1 (by decide) ?_
  refine wp_bipush (v := 105) dX11_line_3 (by decide) ?_
  refine wp_bipush (v := 110) dX11_line_5 (by decide) ?_
  refine wp_bipush (v := 107) dX11_line_7 (by decide) ?_
  refine wp_iconst (v := 0) dX11_line_9 (by decide) ?_
  refine wp_iconst (v := 0) dX11_line_10 (by decide) ?_
  obtain ⟨r1, hF2, h⟩ := obi h
  refine wp_callSl (As := [.int 108, .int 105, .int 110, .int 107, .int 0, .int 0]) dX11_line_11 lbX11_spelled mlX11_170 smX11_spelled (ct_X11_spelled 0 (Nat.le_refl _) hS  hF2) rfl rfl (Nat.le_trans (by decide) hd) (Nat.le_of_ble_eq_true rfl) (fun _ => ?_)
  refine wp_iconst (v := 4) dX11_line_14 (by decide) ?_
  obtain ⟨r3, hF4, h⟩ := obi h
  refine wp_callVi (ci := 11) (As := [.long r1, .int 4]) dX11_line_15 lbX11_isWord mlX11_174 imX11_isWord seX11_isWord vc11 (ct_X11_isWord 0 (Nat.le_refl _) hS  hF4) rfl rfl (Nat.le_trans (by decide) hd) (sk310 hS) (sn310 hS) (Nat.le_of_ble_eq_true rfl) (fun _ => ?_)
  obtain ⟨⟨I5, J6⟩, hh43, h⟩ := obi h
  have hJ : Wp RX11 cX11_line 1 none [] hF d 0 0 106 [(0, .ref 310)] [] S I5 J6 (qE (.inl none) S r.1 r.2) := by
    refine wp_aload_n dX11_line_106 rfl rfl ?_
    refine wp_aload_n dX11_line_107 rfl rfl ?_
    refine wp_getI dX11_line_108 flX11_126 rfl (sk310 hS) (sn310 hS) ?_
    refine wp_iconst (v := 3) dX11_line_111 (by decide) ?_
    obtain ⟨x37, hh42, h⟩ := obi h
    have hJ : Wp RX11 cX11_line 1 none [] hF d 0 0 120 [] [.int x37, .ref 310] S I5 J6 (qE (.inl none) S r.1 r.2) := by
      obtain ⟨⟨I39, J40⟩, hF41, h⟩ := obi h
      refine wp_callVv (ci := 11) (As := [.int x37]) dX11_line_120 lbX11_need mlX11_188 imX11_need seX11_need vc11 (ct_X11_need N 2 (Nat.le_refl _) hS  hF41) rfl rfl (Nat.le_trans (by decide) hd) (sk310 hS) (sn310 hS) (Nat.le_of_ble_eq_true rfl) (fun _ => ?_)
      exact wp_vret dX11_line_123 rfl (by obtain rfl := sji h; exact ⟨rfl, rfl, rfl, rfl⟩)
    clear h
    have h := hh42
    clear hh42
    refine wp_icmp_ne (tgt := 119) dX11_line_112 (by decide) (fun hc38 => ?_) (fun hc38 => ?_)
    · have h := ite_f hc38 h
      refine wp_iconst (v := 0) dX11_line_119 (by decide) ?_
      cases h
      exact wp_pick (ks := []) rfl hJ
    · have h := ite_t hc38 h
      refine wp_iconst (v := 1) dX11_line_115 (by decide) ?_
      refine wp_goto (tgt := 120) dX11_line_116 (by decide) ?_
      cases h
      exact wp_pick (ks := []) rfl hJ
  clear h
  have h := hh43
  clear hh43
  refine wp_if_eq (tgt := 49) dX11_line_18 (by decide) (fun hc7 => ?_) (fun hc7 => ?_)
  · have h := ite_t hc7 h
    refine wp_aload_n dX11_line_49 rfl rfl ?_
    refine wp_bipush (v := 116) dX11_line_50 (by decide) ?_
    refine wp_bipush (v := 117) dX11_line_52 (by decide) ?_
    refine wp_bipush (v := 110) dX11_line_54 (by decide) ?_
    refine wp_bipush (v := 110) dX11_line_56 (by decide) ?_
    refine wp_bipush (v := 101) dX11_line_58 (by decide) ?_
    refine wp_bipush (v := 108) dX11_line_60 (by decide) ?_
    obtain ⟨r8, hF9, h⟩ := obi h
    refine wp_callSl (As := [.int 116, .int 117, .int 110, .int 110, .int 101, .int 108]) dX11_line_62 lbX11_spelled mlX11_170 smX11_spelled (ct_X11_spelled 0 (Nat.le_refl _) hS  hF9) rfl rfl (Nat.le_trans (by decide) hd) (Nat.le_of_ble_eq_true rfl) (fun _ => ?_)
    refine wp_bipush (v := 6) dX11_line_65 (by decide) ?_
    obtain ⟨r10, hF11, h⟩ := obi h
    refine wp_callVi (ci := 11) (As := [.long r8, .int 6]) dX11_line_67 lbX11_isWord mlX11_174 imX11_isWord seX11_isWord vc11 (ct_X11_isWord 0 (Nat.le_refl _) hS  hF11) rfl rfl (Nat.le_trans (by decide) hd) (sk310 hS) (sn310 hS) (Nat.le_of_ble_eq_true rfl) (fun _ => ?_)
    refine wp_if_eq (tgt := 101) dX11_line_70 (by decide) (fun hc12 => ?_) (fun hc12 => ?_)
    · have h := ite_t hc12 h
      refine wp_aload_n dX11_line_101 rfl rfl ?_
      refine wp_iconst (v := 1) dX11_line_102 (by decide) ?_
      obtain ⟨I13, hF14, h⟩ := obi h
      refine wp_callVv (ci := 11) (As := [.int 1]) dX11_line_103 lbX11_wrong mlX11_151 imX11_wrong seX11_wrong vc11 (ct_X11_wrong 0 (Nat.le_refl _) hS  hF14) rfl rfl (Nat.le_trans (by decide) hd) (sk310 hS) (sn310 hS) (Nat.le_of_ble_eq_true rfl) (fun _ => ?_)
      cases h
      exact wp_pick (ks := [0]) rfl hJ
    · have h := ite_f hc12 h
      refine wp_aload_n dX11_line_73 rfl rfl ?_
      refine wp_aload_n dX11_line_74 rfl rfl ?_
      refine wp_getI dX11_line_75 flX11_167 rfl (sk310 hS) (sn310 hS) ?_
      refine wp_bipush (v := 9) dX11_line_78 (by decide) ?_
      obtain ⟨x15, hh25, h⟩ := obi h
      have hJ : Wp RX11 cX11_line 1 none [] hF d 0 0 88 [(0, .ref 310)] [.int x15, .ref 310] S I J (qE (.inl none) S r.1 r.2) := by
        obtain ⟨⟨r17, I18, J19⟩, hF20, h⟩ := obi h
        refine wp_callVi (ci := 11) (As := [.int x15]) dX11_line_88 lbX11_begins mlX11_178 imX11_begins seX11_begins vc11 (ct_X11_begins N 2 (Nat.le_refl _) hS  hF20) rfl rfl (Nat.le_trans (by decide) hd) (sk310 hS) (sn310 hS) (Nat.le_of_ble_eq_true rfl) (fun _ => ?_)
        refine wp_if_eq (tgt := 106) dX11_line_91 (by decide) (fun hc21 => ?_) (fun hc21 => ?_)
        · have h := ite_t hc21 h
          cases h
          exact wp_pick (ks := [0]) rfl hJ
        · have h := ite_f hc21 h
          refine wp_aload_n dX11_line_94 rfl rfl ?_
          obtain ⟨⟨I22, J23⟩, hF24, h⟩ := obi h
          refine wp_callVv (ci := 11) (As := []) dX11_line_95 lbX11_readsTunnel mlX11_185 imX11_readsTunnel seX11_readsTunnel vc11 (ct_X11_readsTunnel N 3 (Nat.le_refl _) hS  hF24) rfl rfl (Nat.le_trans (by decide) hd) (sk310 hS) (sn310 hS) (Nat.le_of_ble_eq_true rfl) (fun _ => ?_)
          refine wp_goto (tgt := 106) dX11_line_98 (by decide) ?_
          cases h
          exact wp_pick (ks := [0]) rfl hJ
      clear h
      have h := hh25
      clear hh25
      refine wp_icmp_ne (tgt := 87) dX11_line_80 (by decide) (fun hc16 => ?_) (fun hc16 => ?_)
      · have h := ite_f hc16 h
        refine wp_iconst (v := 0) dX11_line_87 (by decide) ?_
        cases h
        exact wp_pick (ks := [0]) rfl hJ
      · have h := ite_t hc16 h
        refine wp_iconst (v := 1) dX11_line_83 (by decide) ?_
        refine wp_goto (tgt := 88) dX11_line_84 (by decide) ?_
        cases h
        exact wp_pick (ks := [0]) rfl hJ
  · have h := ite_f hc7 h
    refine wp_aload_n dX11_line_21 rfl rfl ?_
    refine wp_aload_n dX11_line_22 rfl rfl ?_
    refine wp_getI dX11_line_23 flX11_157 rfl (sk310 hS) (sn310 hS) ?_
    refine wp_bipush (v := 16) dX11_line_26 (by decide) ?_
    obtain ⟨x26, hh36, h⟩ := obi h
    have hJ : Wp RX11 cX11_line 1 none [] hF d 0 0 36 [(0, .ref 310)] [.int x26, .ref 310] S I J (qE (.inl none) S r.1 r.2) := by
      obtain ⟨⟨r28, I29, J30⟩, hF31, h⟩ := obi h
      refine wp_callVi (ci := 11) (As := [.int x26]) dX11_line_36 lbX11_begins mlX11_178 imX11_begins seX11_begins vc11 (ct_X11_begins N 2 (Nat.le_refl _) hS  hF31) rfl rfl (Nat.le_trans (by decide) hd) (sk310 hS) (sn310 hS) (Nat.le_of_ble_eq_true rfl) (fun _ => ?_)
      refine wp_if_eq (tgt := 106) dX11_line_39 (by decide) (fun hc32 => ?_) (fun hc32 => ?_)
      · have h := ite_t hc32 h
        cases h
        exact wp_pick (ks := [0]) rfl hJ
      · have h := ite_f hc32 h
        refine wp_aload_n dX11_line_42 rfl rfl ?_
        obtain ⟨⟨I33, J34⟩, hF35, h⟩ := obi h
        refine wp_callVv (ci := 11) (As := []) dX11_line_43 lbX11_readsLink mlX11_182 imX11_readsLink seX11_readsLink vc11 (ct_X11_readsLink N 3 (Nat.le_refl _) hS  hF35) rfl rfl (Nat.le_trans (by decide) hd) (sk310 hS) (sn310 hS) (Nat.le_of_ble_eq_true rfl) (fun _ => ?_)
        refine wp_goto (tgt := 106) dX11_line_46 (by decide) ?_
        cases h
        exact wp_pick (ks := [0]) rfl hJ
    clear h
    have h := hh36
    clear hh36
    refine wp_icmp_ne (tgt := 35) dX11_line_28 (by decide) (fun hc27 => ?_) (fun hc27 => ?_)
    · have h := ite_f hc27 h
      refine wp_iconst (v := 0) dX11_line_35 (by decide) ?_
      cases h
      exact wp_pick (ks := [0]) rfl hJ
    · have h := ite_t hc27 h
      refine wp_iconst (v := 1) dX11_line_31 (by decide) ?_
      refine wp_goto (tgt := 36) dX11_line_32 (by decide) ?_
      cases h
      exact wp_pick (ks := [0]) rfl hJ
def mX11_copies_314_313_2  : Nat → Int32 → gI → Option (gI)
  | 0, _, _ => none
  | n + 1, v3, I => if 80 ≤ v3 then (some I) else (ck v3 80 (mX11_copies_314_313_2 n (v3 + 1) (upd2 I 313 v3.toNatClampNeg (I 314 v3.toNatClampNeg))))
def mX11_copies_314_313 (N : Nat) (I : gI) : Option (gI) := Option.bind (mX11_copies_314_313_2 N 0 I) (fun I3 => some I3)
set_option maxHeartbeats 4000000 in
set_option maxRecDepth 100000 in
theorem wX11_copies_314_313_2 (d : Nat) (hd : 0 ≤ d) {S : gS} {J : gJ} (hS : Sh S)  {Q : gO → gS → gI → gJ → Prop} :
    ∀ (n : Nat) (v3 : Int32) (I : gI) (res : gI), mX11_copies_314_313_2 n v3 I = some res → (∀ (O : gI), res = O → Wp RX11 cX11_copies 4 none [] hF d 0 0 20 [] [] S O J Q) → Wp RX11 cX11_copies 4 none [] hF d 0 0 2 [(1, .ref 314), (2, .ref 313), (3, .int v3)] [] S I J Q := by
  intro n
  induction n with
  | zero => intro v3 I res h; exact nso h
  | succ n ih =>
    intro v3 I res h kx
    rw [mX11_copies_314_313_2] at h
    refine wp_iload_n dX11_copies_2 rfl rfl ?_
    refine wp_aload_n dX11_copies_3 rfl rfl ?_
    refine wp_alen (v := 80) dX11_copies_4 (sk314 hS) (by decide) (sn314 hS) (by decide) ?_
    refine wp_icmp_ge (tgt := 20) dX11_copies_5 (by decide) (fun hc1 => ?_) (fun hc1 => ?_)
    · have h := ite_t hc1 h
      exact wp_pick (ks := []) rfl (kx _ (sji h).symm)
    · have h := ite_f hc1 h
      refine wp_aload_n dX11_copies_8 rfl rfl ?_
      refine wp_iload_n dX11_copies_9 rfl rfl ?_
      refine wp_aload_n dX11_copies_10 rfl rfl ?_
      refine wp_iload_n dX11_copies_11 rfl rfl ?_
      obtain ⟨hb2, h⟩ := ck_inv h
      refine wp_iald dX11_copies_12 (sk314 hS) (sn314 hS) hb2 ?_
      refine wp_iast dX11_copies_13 (sk313 hS) (sn313 hS) hb2 ?_
      refine wp_iinc (v := 1) (ls' := [(3, .int (v3 + 1)), (1, .ref 314), (2, .ref 313)]) dX11_copies_14 rfl (by decide) (Nat.le_of_ble_eq_true rfl) rfl ?_
      refine wp_goto (tgt := 2) dX11_copies_17 (by decide) ?_
      exact wp_pick (ks := [1, 2, 0]) rfl (ih _ _ _ h kx)
set_option maxHeartbeats 4000000 in
set_option maxRecDepth 100000 in
theorem ct_X11_copies_314_313 (N : Nat) (d : Nat) (hd : 0 ≤ d) {S : gS} {J : gJ} (hS : Sh S)  {I : gI} {r : gI} (h : mX11_copies_314_313 N I = some r) : Ct yX11_copies (wsY yX11_copies cX11_copies 4 none) d 0 0 [.ref 310, .ref 314, .ref 313] S I J (qE (.inl none) S r J) := by
  refine Ct.of hF (fun _ _ _ _ _ => trivial) (by decide +kernel) (Nat.le_of_ble_eq_true rfl) ⟨Or.inl (sn310 hS), Or.inl (sn314 hS), Or.inl (sn313 hS), trivial⟩ ?_
  show Wp RX11 cX11_copies 4 none [] hF d 0 0 0 [(0, .ref 310), (1, .ref 314), (2, .ref 313)] [] S I J _
  unfold mX11_copies_314_313 at h
  refine wp_iconst (v := 0) dX11_copies_0 (by decide) ?_
  refine wp_istore_n (ls' := [(3, .int 0), (0, .ref 310), (1, .ref 314), (2, .ref 313)]) dX11_copies_1 rfl (Nat.le_of_ble_eq_true rfl) rfl ?_
  obtain ⟨I3, hL94, h⟩ := obi h
  refine wp_pick (ks := [2, 3, 0]) rfl (wX11_copies_314_313_2 d hd hS   N 0 I _ hL94 (fun _ e5 => ?_))
  cases e5
  exact wp_vret dX11_copies_20 rfl (by obtain rfl := sji h; exact ⟨rfl, rfl, rfl, rfl⟩)
def mX11_copies_316_315_2  : Nat → Int32 → gI → Option (gI)
  | 0, _, _ => none
  | n + 1, v3, I => if 63 ≤ v3 then (some I) else (ck v3 63 (mX11_copies_316_315_2 n (v3 + 1) (upd2 I 315 v3.toNatClampNeg (I 316 v3.toNatClampNeg))))
def mX11_copies_316_315 (N : Nat) (I : gI) : Option (gI) := Option.bind (mX11_copies_316_315_2 N 0 I) (fun I3 => some I3)
set_option maxHeartbeats 4000000 in
set_option maxRecDepth 100000 in
theorem wX11_copies_316_315_2 (d : Nat) (hd : 0 ≤ d) {S : gS} {J : gJ} (hS : Sh S)  {Q : gO → gS → gI → gJ → Prop} :
    ∀ (n : Nat) (v3 : Int32) (I : gI) (res : gI), mX11_copies_316_315_2 n v3 I = some res → (∀ (O : gI), res = O → Wp RX11 cX11_copies 4 none [] hF d 0 0 20 [] [] S O J Q) → Wp RX11 cX11_copies 4 none [] hF d 0 0 2 [(1, .ref 316), (2, .ref 315), (3, .int v3)] [] S I J Q := by
  intro n
  induction n with
  | zero => intro v3 I res h; exact nso h
  | succ n ih =>
    intro v3 I res h kx
    rw [mX11_copies_316_315_2] at h
    refine wp_iload_n dX11_copies_2 rfl rfl ?_
    refine wp_aload_n dX11_copies_3 rfl rfl ?_
    refine wp_alen (v := 63) dX11_copies_4 (sk316 hS) (by decide) (sn316 hS) (by decide) ?_
    refine wp_icmp_ge (tgt := 20) dX11_copies_5 (by decide) (fun hc1 => ?_) (fun hc1 => ?_)
    · have h := ite_t hc1 h
      exact wp_pick (ks := []) rfl (kx _ (sji h).symm)
    · have h := ite_f hc1 h
      refine wp_aload_n dX11_copies_8 rfl rfl ?_
      refine wp_iload_n dX11_copies_9 rfl rfl ?_
      refine wp_aload_n dX11_copies_10 rfl rfl ?_
      refine wp_iload_n dX11_copies_11 rfl rfl ?_
      obtain ⟨hb2, h⟩ := ck_inv h
      refine wp_iald dX11_copies_12 (sk316 hS) (sn316 hS) hb2 ?_
      refine wp_iast dX11_copies_13 (sk315 hS) (sn315 hS) hb2 ?_
      refine wp_iinc (v := 1) (ls' := [(3, .int (v3 + 1)), (1, .ref 316), (2, .ref 315)]) dX11_copies_14 rfl (by decide) (Nat.le_of_ble_eq_true rfl) rfl ?_
      refine wp_goto (tgt := 2) dX11_copies_17 (by decide) ?_
      exact wp_pick (ks := [1, 2, 0]) rfl (ih _ _ _ h kx)
set_option maxHeartbeats 4000000 in
set_option maxRecDepth 100000 in
theorem ct_X11_copies_316_315 (N : Nat) (d : Nat) (hd : 0 ≤ d) {S : gS} {J : gJ} (hS : Sh S)  {I : gI} {r : gI} (h : mX11_copies_316_315 N I = some r) : Ct yX11_copies (wsY yX11_copies cX11_copies 4 none) d 0 0 [.ref 310, .ref 316, .ref 315] S I J (qE (.inl none) S r J) := by
  refine Ct.of hF (fun _ _ _ _ _ => trivial) (by decide +kernel) (Nat.le_of_ble_eq_true rfl) ⟨Or.inl (sn310 hS), Or.inl (sn316 hS), Or.inl (sn315 hS), trivial⟩ ?_
  show Wp RX11 cX11_copies 4 none [] hF d 0 0 0 [(0, .ref 310), (1, .ref 316), (2, .ref 315)] [] S I J _
  unfold mX11_copies_316_315 at h
  refine wp_iconst (v := 0) dX11_copies_0 (by decide) ?_
  refine wp_istore_n (ls' := [(3, .int 0), (0, .ref 310), (1, .ref 316), (2, .ref 315)]) dX11_copies_1 rfl (Nat.le_of_ble_eq_true rfl) rfl ?_
  obtain ⟨I3, hL94, h⟩ := obi h
  refine wp_pick (ks := [2, 3, 0]) rfl (wX11_copies_316_315_2 d hd hS   N 0 I _ hL94 (fun _ e5 => ?_))
  cases e5
  exact wp_vret dX11_copies_20 rfl (by obtain rfl := sji h; exact ⟨rfl, rfl, rfl, rfl⟩)
def mX11_network_130 (N : Nat) : Nat → gI → gJ → Option (gI × gJ)
  | 0, _, _ => none
  | n + 1, I, J => Option.bind (mX11_isGood I) (fun r33 => if r33 = 0 then (some (I, J)) else (if (I 310 8) = 0 then (some (I, J)) else (Option.bind (mX11_line N I J) (fun (I37, J38) => mX11_network_130 N n I37 J38))))
def mX11_network_237 (J : gJ) : Nat → Int32 → gI → Option (gI)
  | 0, _, _ => none
  | n + 1, v2, I => if 9 ≤ v2 then (some I) else (if (I 310 15) ≤ v2 then (ck (1 + v2) 164 (ck (10 + v2) 164 (nm (upd2 (upd2 I 317 (1 + v2).toNatClampNeg 0) 317 (10 + v2).toNatClampNeg (-1)) (fun I57 => mX11_network_237 J n (v2 + 1) I57)))) else (ck ((7 * v2) + 2) 63 (ck (1 + v2) 164 (ck (10 + v2) 164 (nm (upd2 (upd2 I 317 (1 + v2).toNatClampNeg (I 315 ((7 * v2) + 2).toNatClampNeg)) 317 (10 + v2).toNatClampNeg (-1)) (fun I62 => mX11_network_237 J n (v2 + 1) I62))))))
def mX11_network (N : Nat) (a2 : Int32) (I : gI) (J : gJ) : Option (Int32 × gI × gJ) := Option.bind (if a2 < 0 then (some 0) else (if ((upd2 I 310 0 0) 310 2) < a2 then (some 0) else (some 1)) : Option (Int32)) (fun x1 => Option.bind (mX11_right x1 1 (upd2 I 310 0 0)) (fun (r4, I5) => if r4 = 0 then (some (0, I5, J)) else (nm (upd2 (upd2 (upd2 (upd2 (upd2 I5 310 2 0) 310 4 (-1)) 310 3 0) 310 6 a2) 310 7 0) (fun I8 => Option.bind (mX11_goes N (upd2 (upd2 (upd2 I8 310 16 2) 310 17 0) 310 18 0) J) (fun (I10, J11) => Option.bind (mX11_spelled 110 111 100 101 115 0 I10) (fun r13 => Option.bind (mX11_isWord r13 5 I10 J11) (fun r15 => Option.bind (if r15 = 0 then (some (I10, J11)) else (Option.bind (mX11_goes N I10 J11) (fun (I20, J21) => Option.bind (mX11_number N 2 8 I20 J21) (fun (r23, I24, J25) => Option.bind (if ((upd2 I24 310 16 r23) 310 8) = 3 then (some 1) else (some 0) : Option (Int32)) (fun x27 => Option.bind (mX11_need N x27 (upd2 I24 310 16 r23) J25) (fun (I29, J30) => some (I29, J30)))))) : Option (gI × gJ)) (fun (I17, J18) => Option.bind (mX11_network_130 N N I17 J18) (fun (I40, J41) => Option.bind (mX11_isGood I40) (fun r42 => if r42 = 0 then (nm (upd2 I40 312 (0 : Int32).toNatClampNeg ((I40 312 (0 : Int32).toNatClampNeg) + 1)) (fun I67 => some (I67 310 3, I67, J41))) else (nm (upd2 (upd2 I40 310 13 (I40 310 16)) 310 14 ((upd2 I40 310 13 (I40 310 16)) 310 17)) (fun I45 => Option.bind (mX11_copies_314_313 N (upd2 I45 310 15 (I45 310 18))) (fun I47 => Option.bind (mX11_copies_316_315 N I47) (fun I49 => nm (upd2 I49 317 (0 : Int32).toNatClampNeg (((1 : Int32) <<< ((I49 310 14) &&& 31)) - 1)) (fun I51 => Option.bind (mX11_network_237 J41 N 0 I51) (fun I64 => some (0, upd2 (upd2 (upd2 I64 310 25 0) 310 45 0) 310 48 0, J41)))))))))))))))))
set_option maxHeartbeats 4000000 in
set_option maxRecDepth 100000 in
theorem wX11_network_130 (N : Nat) (d : Nat) (hd : 5 ≤ d) {S : gS} (hS : Sh S)  {Q : gO → gS → gI → gJ → Prop} :
    ∀ (n : Nat)  (I : gI) (J : gJ) (res : gI × gJ), mX11_network_130 N n I J = some res → (∀ (O : gI) (P : gJ), res = (O, P) → Wp RX11 cX11_network 3 (some .int) [] hF d 0 0 151 [(0, .ref 310)] [] S O P Q) → Wp RX11 cX11_network 3 (some .int) [] hF d 0 0 130 [(0, .ref 310)] [] S I J Q := by
  intro n
  induction n with
  | zero => intro I J res h; exact nso h
  | succ n ih =>
    intro I J res h kx
    rw [mX11_network_130] at h
    refine wp_aload_n dX11_network_130 rfl rfl ?_
    obtain ⟨r33, hF34, h⟩ := obi h
    refine wp_callVi (ci := 11) (As := []) dX11_network_131 lbX11_isGood mlX11_144 imX11_isGood seX11_isGood vc11 (ct_X11_isGood 0 (Nat.le_refl _) hS  hF34) rfl rfl (Nat.le_trans (by decide) hd) (sk310 hS) (sn310 hS) (Nat.le_of_ble_eq_true rfl) (fun _ => ?_)
    refine wp_if_eq (tgt := 151) dX11_network_134 (by decide) (fun hc35 => ?_) (fun hc35 => ?_)
    · have h := ite_t hc35 h
      exact wp_pick (ks := [0]) rfl (kx _ _ (sji h).symm)
    · have h := ite_f hc35 h
      refine wp_aload_n dX11_network_137 rfl rfl ?_
      refine wp_getI dX11_network_138 flX11_126 rfl (sk310 hS) (sn310 hS) ?_
      refine wp_if_eq (tgt := 151) dX11_network_141 (by decide) (fun hc36 => ?_) (fun hc36 => ?_)
      · have h := ite_t hc36 h
        exact wp_pick (ks := [0]) rfl (kx _ _ (sji h).symm)
      · have h := ite_f hc36 h
        refine wp_aload_n dX11_network_144 rfl rfl ?_
        obtain ⟨⟨I37, J38⟩, hF39, h⟩ := obi h
        refine wp_callVv (ci := 11) (As := []) dX11_network_145 lbX11_line mlX11_196 imX11_line seX11_line vc11 (ct_X11_line N 4 (Nat.le_refl _) hS  hF39) rfl rfl (Nat.le_trans (by decide) hd) (sk310 hS) (sn310 hS) (Nat.le_of_ble_eq_true rfl) (fun _ => ?_)
        refine wp_goto (tgt := 130) dX11_network_148 (by decide) ?_
        exact wp_pick (ks := [0]) rfl (ih _ _ _ h kx)
set_option maxHeartbeats 4000000 in
set_option maxRecDepth 100000 in
theorem wX11_network_237 (d : Nat) (hd : 5 ≤ d) {S : gS} {J : gJ} (hS : Sh S)  {Q : gO → gS → gI → gJ → Prop} :
    ∀ (n : Nat) (v2 : Int32) (I : gI) (res : gI), mX11_network_237 J n v2 I = some res → (∀ (O : gI), res = O → Wp RX11 cX11_network 3 (some .int) [] hF d 0 0 290 [(0, .ref 310)] [] S O J Q) → Wp RX11 cX11_network 3 (some .int) [] hF d 0 0 237 [(0, .ref 310), (2, .int v2)] [] S I J Q := by
  intro n
  induction n with
  | zero => intro v2 I res h; exact nso h
  | succ n ih =>
    intro v2 I res h kx
    rw [mX11_network_237] at h
    refine wp_iload_n dX11_network_237 rfl rfl ?_
    refine wp_bipush (v := 9) dX11_network_238 (by decide) ?_
    refine wp_icmp_ge (tgt := 290) dX11_network_240 (by decide) (fun hc53 => ?_) (fun hc53 => ?_)
    · have h := ite_t hc53 h
      exact wp_pick (ks := [0]) rfl (kx _ (sji h).symm)
    · have h := ite_f hc53 h
      refine wp_aload_n dX11_network_243 rfl rfl ?_
      refine wp_getR dX11_network_244 flX11_35 rfl (sk310 hS) (sn310 hS) (sr310_23 hS) ?_
      refine wp_iconst (v := 1) dX11_network_247 (by decide) ?_
      refine wp_iload_n dX11_network_248 rfl rfl ?_
      refine wp_iadd dX11_network_249 ?_
      refine wp_iload_n dX11_network_250 rfl rfl ?_
      refine wp_aload_n dX11_network_251 rfl rfl ?_
      refine wp_getI dX11_network_252 flX11_202 rfl (sk310 hS) (sn310 hS) ?_
      refine wp_icmp_ge (tgt := 272) dX11_network_255 (by decide) (fun hc54 => ?_) (fun hc54 => ?_)
      · have h := ite_t hc54 h
        refine wp_iconst (v := 0) dX11_network_272 (by decide) ?_
        obtain ⟨hb55, h⟩ := ck_inv h
        refine wp_iast dX11_network_273 (sk317 hS) (sn317 hS) hb55 ?_
        refine wp_aload_n dX11_network_274 rfl rfl ?_
        refine wp_getR dX11_network_275 flX11_35 rfl (sk310 hS) (sn310 hS) (sr310_23 hS) ?_
        refine wp_bipush (v := 10) dX11_network_278 (by decide) ?_
        refine wp_iload_n dX11_network_280 rfl rfl ?_
        refine wp_iadd dX11_network_281 ?_
        refine wp_iconst (v := (-1)) dX11_network_282 (by decide) ?_
        obtain ⟨hb56, h⟩ := ck_inv h
        refine wp_iast dX11_network_283 (sk317 hS) (sn317 hS) hb56 ?_
        obtain ⟨I57, hx58, h⟩ := nm_inv h
        refine wp_nmI hx58 ?_
        refine wp_iinc (v := 1) (ls' := [(2, .int (v2 + 1)), (0, .ref 310)]) dX11_network_284 rfl (by decide) (Nat.le_of_ble_eq_true rfl) rfl ?_
        refine wp_goto (tgt := 237) dX11_network_287 (by decide) ?_
        exact wp_pick (ks := [1, 0]) rfl (ih _ _ _ h kx)
      · have h := ite_f hc54 h
        refine wp_aload_n dX11_network_258 rfl rfl ?_
        refine wp_getR dX11_network_259 flX11_29 rfl (sk310 hS) (sn310 hS) (sr310_21 hS) ?_
        refine wp_bipush (v := 7) dX11_network_262 (by decide) ?_
        refine wp_iload_n dX11_network_264 rfl rfl ?_
        refine wp_imul dX11_network_265 ?_
        refine wp_iconst (v := 2) dX11_network_266 (by decide) ?_
        refine wp_iadd dX11_network_267 ?_
        obtain ⟨hb59, h⟩ := ck_inv h
        refine wp_iald dX11_network_268 (sk315 hS) (sn315 hS) hb59 ?_
        refine wp_goto (tgt := 273) dX11_network_269 (by decide) ?_
        obtain ⟨hb60, h⟩ := ck_inv h
        refine wp_iast dX11_network_273 (sk317 hS) (sn317 hS) hb60 ?_
        refine wp_aload_n dX11_network_274 rfl rfl ?_
        refine wp_getR dX11_network_275 flX11_35 rfl (sk310 hS) (sn310 hS) (sr310_23 hS) ?_
        refine wp_bipush (v := 10) dX11_network_278 (by decide) ?_
        refine wp_iload_n dX11_network_280 rfl rfl ?_
        refine wp_iadd dX11_network_281 ?_
        refine wp_iconst (v := (-1)) dX11_network_282 (by decide) ?_
        obtain ⟨hb61, h⟩ := ck_inv h
        refine wp_iast dX11_network_283 (sk317 hS) (sn317 hS) hb61 ?_
        obtain ⟨I62, hx63, h⟩ := nm_inv h
        refine wp_nmI hx63 ?_
        refine wp_iinc (v := 1) (ls' := [(2, .int (v2 + 1)), (0, .ref 310)]) dX11_network_284 rfl (by decide) (Nat.le_of_ble_eq_true rfl) rfl ?_
        refine wp_goto (tgt := 237) dX11_network_287 (by decide) ?_
        exact wp_pick (ks := [1, 0]) rfl (ih _ _ _ h kx)
set_option maxHeartbeats 4000000 in
set_option maxRecDepth 100000 in
theorem ct_X11_network (N : Nat) (d : Nat) (hd : 5 ≤ d) {S : gS} {J : gJ} (hS : Sh S)  {a2 : Int32} {I : gI} {r : Int32 × gI × gJ} (h : mX11_network N a2 I J = some r) : Ct yX11_network (wsY yX11_network cX11_network 3 (some .int)) d 0 0 [.ref 310, .int a2] S I J (qE (.inl (some (.int r.1))) S r.2.1 r.2.2) := by
  refine Ct.of hF (fun _ _ _ _ _ => trivial) (by decide +kernel) (Nat.le_of_ble_eq_true rfl) ⟨Or.inl (sn310 hS), trivial, trivial⟩ ?_
  show Wp RX11 cX11_network 3 (some .int) [] hF d 0 0 0 [(0, .ref 310), (1, .int a2)] [] S I J _
  unfold mX11_network at h
  refine wp_aload_n dX11_network_0 rfl rfl ?_
  refine wp_iconst (v := 0) dX11_network_1 (by decide) ?_
  refine wp_putI dX11_network_2 (Or.inl fpX11_96) rfl ⟨rfl, rfl⟩ (sk310 hS) (sn310 hS) ?_
  refine wp_aload_n dX11_network_5 rfl rfl ?_
  refine wp_iload_n dX11_network_6 rfl rfl ?_
  obtain ⟨x1, hh72, h⟩ := obi h
  have hJ : Wp RX11 cX11_network 3 (some .int) [] hF d 0 0 23 [(0, .ref 310), (1, .int a2)] [.int x1, .ref 310] S (upd2 I 310 0 0) J (qE (.inl (some (.int r.1))) S r.2.1 r.2.2) := by
    refine wp_iconst (v := 1) dX11_network_23 (by decide) ?_
    obtain ⟨⟨r4, I5⟩, hF6, h⟩ := obi h
    refine wp_callVi (ci := 11) (As := [.int x1, .int 1]) dX11_network_24 lbX11_right mlX11_192 imX11_right seX11_right vc11 (ct_X11_right 0 (Nat.le_refl _) hS  hF6) rfl rfl (Nat.le_trans (by decide) hd) (sk310 hS) (sn310 hS) (Nat.le_of_ble_eq_true rfl) (fun _ => ?_)
    refine wp_if_ne (tgt := 32) dX11_network_27 (by decide) (fun hc7 => ?_) (fun hc7 => ?_)
    · have h := ite_f hc7 h
      refine wp_aload_n dX11_network_32 rfl rfl ?_
      refine wp_iconst (v := 0) dX11_network_33 (by decide) ?_
      refine wp_putI dX11_network_34 (Or.inl fpX11_99) rfl ⟨rfl, rfl⟩ (sk310 hS) (sn310 hS) ?_
      refine wp_aload_n dX11_network_37 rfl rfl ?_
      refine wp_iconst (v := (-1)) dX11_network_38 (by decide) ?_
      refine wp_putI dX11_network_39 (Or.inl fpX11_13) rfl ⟨rfl, rfl⟩ (sk310 hS) (sn310 hS) ?_
      refine wp_aload_n dX11_network_42 rfl rfl ?_
      refine wp_iconst (v := 0) dX11_network_43 (by decide) ?_
      refine wp_putI dX11_network_44 (Or.inl fpX11_141) rfl ⟨rfl, rfl⟩ (sk310 hS) (sn310 hS) ?_
      refine wp_aload_n dX11_network_47 rfl rfl ?_
      refine wp_iload_n dX11_network_48 rfl rfl ?_
      refine wp_putI dX11_network_49 (Or.inl fpX11_106) rfl ⟨rfl, rfl⟩ (sk310 hS) (sn310 hS) ?_
      refine wp_aload_n dX11_network_52 rfl rfl ?_
      refine wp_iconst (v := 0) dX11_network_53 (by decide) ?_
      refine wp_putI dX11_network_54 (Or.inl fpX11_109) rfl ⟨rfl, rfl⟩ (sk310 hS) (sn310 hS) ?_
      obtain ⟨I8, hx9, h⟩ := nm_inv h
      refine wp_nmI hx9 ?_
      refine wp_aload_n dX11_network_57 rfl rfl ?_
      refine wp_iconst (v := 2) dX11_network_58 (by decide) ?_
      refine wp_putI dX11_network_59 (Or.inl fpX11_154) rfl ⟨rfl, rfl⟩ (sk310 hS) (sn310 hS) ?_
      refine wp_aload_n dX11_network_62 rfl rfl ?_
      refine wp_iconst (v := 0) dX11_network_63 (by decide) ?_
      refine wp_putI dX11_network_64 (Or.inl fpX11_157) rfl ⟨rfl, rfl⟩ (sk310 hS) (sn310 hS) ?_
      refine wp_aload_n dX11_network_67 rfl rfl ?_
      refine wp_iconst (v := 0) dX11_network_68 (by decide) ?_
      refine wp_putI dX11_network_69 (Or.inl fpX11_167) rfl ⟨rfl, rfl⟩ (sk310 hS) (sn310 hS) ?_
      refine wp_aload_n dX11_network_72 rfl rfl ?_
      obtain ⟨⟨I10, J11⟩, hF12, h⟩ := obi h
      refine wp_callVv (ci := 11) (As := []) dX11_network_73 lbX11_goes mlX11_148 imX11_goes seX11_goes vc11 (ct_X11_goes N 1 (Nat.le_refl _) hS  hF12) rfl rfl (Nat.le_trans (by decide) hd) (sk310 hS) (sn310 hS) (Nat.le_of_ble_eq_true rfl) (fun _ => ?_)
      refine wp_aload_n dX11_network_76 rfl rfl ?_
      refine wp_bipush (v := 110) dX11_network_77 (by decide) ?_
      refine wp_bipush (v := 111) dX11_network_79 (by decide) ?_
      refine wp_bipush (v := 100) dX11_network_81 (by decide) ?_
      refine wp_bipush (v := 101) dX11_network_83 (by decide) ?_
      refine wp_bipush (v := 115) dX11_network_85 (by decide) ?_
      refine wp_iconst (v := 0) dX11_network_87 (by decide) ?_
      obtain ⟨r13, hF14, h⟩ := obi h
      refine wp_callSl (As := [.int 110, .int 111, .int 100, .int 101, .int 115, .int 0]) dX11_network_88 lbX11_spelled mlX11_170 smX11_spelled (ct_X11_spelled 0 (Nat.le_refl _) hS  hF14) rfl rfl (Nat.le_trans (by decide) hd) (Nat.le_of_ble_eq_true rfl) (fun _ => ?_)
      refine wp_iconst (v := 5) dX11_network_91 (by decide) ?_
      obtain ⟨r15, hF16, h⟩ := obi h
      refine wp_callVi (ci := 11) (As := [.long r13, .int 5]) dX11_network_92 lbX11_isWord mlX11_174 imX11_isWord seX11_isWord vc11 (ct_X11_isWord 0 (Nat.le_refl _) hS  hF16) rfl rfl (Nat.le_trans (by decide) hd) (sk310 hS) (sn310 hS) (Nat.le_of_ble_eq_true rfl) (fun _ => ?_)
      obtain ⟨⟨I17, J18⟩, hh71, h⟩ := obi h
      have hJ : Wp RX11 cX11_network 3 (some .int) [] hF d 0 0 130 [(0, .ref 310)] [] S I17 J18 (qE (.inl (some (.int r.1))) S r.2.1 r.2.2) := by
        obtain ⟨⟨I40, J41⟩, hL969, h⟩ := obi h
        refine wp_pick (ks := [0]) rfl (wX11_network_130 N d hd hS   N I17 J18 _ hL969 (fun _ _ e70 => ?_))
        cases e70
        refine wp_aload_n dX11_network_151 rfl rfl ?_
        obtain ⟨r42, hF43, h⟩ := obi h
        refine wp_callVi (ci := 11) (As := []) dX11_network_152 lbX11_isGood mlX11_144 imX11_isGood seX11_isGood vc11 (ct_X11_isGood 0 (Nat.le_refl _) hS  hF43) rfl rfl (Nat.le_trans (by decide) hd) (sk310 hS) (sn310 hS) (Nat.le_of_ble_eq_true rfl) (fun _ => ?_)
        refine wp_if_ne (tgt := 173) dX11_network_155 (by decide) (fun hc44 => ?_) (fun hc44 => ?_)
        · have h := ite_f hc44 h
          refine wp_aload_n dX11_network_173 rfl rfl ?_
          refine wp_aload_n dX11_network_174 rfl rfl ?_
          refine wp_getI dX11_network_175 flX11_154 rfl (sk310 hS) (sn310 hS) ?_
          refine wp_putI dX11_network_178 (Or.inl fpX11_20) rfl ⟨rfl, rfl⟩ (sk310 hS) (sn310 hS) ?_
          refine wp_aload_n dX11_network_181 rfl rfl ?_
          refine wp_aload_n dX11_network_182 rfl rfl ?_
          refine wp_getI dX11_network_183 flX11_157 rfl (sk310 hS) (sn310 hS) ?_
          refine wp_putI dX11_network_186 (Or.inl fpX11_199) rfl ⟨rfl, rfl⟩ (sk310 hS) (sn310 hS) ?_
          obtain ⟨I45, hx46, h⟩ := nm_inv h
          refine wp_nmI hx46 ?_
          refine wp_aload_n dX11_network_189 rfl rfl ?_
          refine wp_aload_n dX11_network_190 rfl rfl ?_
          refine wp_getI dX11_network_191 flX11_167 rfl (sk310 hS) (sn310 hS) ?_
          refine wp_putI dX11_network_194 (Or.inl fpX11_202) rfl ⟨rfl, rfl⟩ (sk310 hS) (sn310 hS) ?_
          refine wp_aload_n dX11_network_197 rfl rfl ?_
          refine wp_aload_n dX11_network_198 rfl rfl ?_
          refine wp_getR dX11_network_199 flX11_26 rfl (sk310 hS) (sn310 hS) (sr310_20 hS) ?_
          refine wp_aload_n dX11_network_202 rfl rfl ?_
          refine wp_getR dX11_network_203 flX11_23 rfl (sk310 hS) (sn310 hS) (sr310_19 hS) ?_
          obtain ⟨I47, hF48, h⟩ := obi h
          refine wp_callVv (ci := 11) (As := [.ref 314, .ref 313]) dX11_network_206 lbX11_copies mlX11_205 imX11_copies seX11_copies vc11 (ct_X11_copies_314_313 N 0 (Nat.le_refl _) hS  hF48) rfl rfl (Nat.le_trans (by decide) hd) (sk310 hS) (sn310 hS) (Nat.le_of_ble_eq_true rfl) (fun _ => ?_)
          refine wp_aload_n dX11_network_209 rfl rfl ?_
          refine wp_aload_n dX11_network_210 rfl rfl ?_
          refine wp_getR dX11_network_211 flX11_32 rfl (sk310 hS) (sn310 hS) (sr310_22 hS) ?_
          refine wp_aload_n dX11_network_214 rfl rfl ?_
          refine wp_getR dX11_network_215 flX11_29 rfl (sk310 hS) (sn310 hS) (sr310_21 hS) ?_
          obtain ⟨I49, hF50, h⟩ := obi h
          refine wp_callVv (ci := 11) (As := [.ref 316, .ref 315]) dX11_network_218 lbX11_copies mlX11_205 imX11_copies seX11_copies vc11 (ct_X11_copies_316_315 N 0 (Nat.le_refl _) hS  hF50) rfl rfl (Nat.le_trans (by decide) hd) (sk310 hS) (sn310 hS) (Nat.le_of_ble_eq_true rfl) (fun _ => ?_)
          refine wp_aload_n dX11_network_221 rfl rfl ?_
          refine wp_getR dX11_network_222 flX11_35 rfl (sk310 hS) (sn310 hS) (sr310_23 hS) ?_
          refine wp_iconst (v := 0) dX11_network_225 (by decide) ?_
          refine wp_iconst (v := 1) dX11_network_226 (by decide) ?_
          refine wp_aload_n dX11_network_227 rfl rfl ?_
          refine wp_getI dX11_network_228 flX11_199 rfl (sk310 hS) (sn310 hS) ?_
          refine wp_ishl dX11_network_231 ?_
          refine wp_iconst (v := 1) dX11_network_232 (by decide) ?_
          refine wp_isub dX11_network_233 ?_
          refine wp_iast dX11_network_234 (sk317 hS) (sn317 hS) (inb_in (by decide)) ?_
          obtain ⟨I51, hx52, h⟩ := nm_inv h
          refine wp_nmI hx52 ?_
          refine wp_iconst (v := 0) dX11_network_235 (by decide) ?_
          refine wp_istore_n (ls' := [(2, .int 0), (0, .ref 310)]) dX11_network_236 rfl (Nat.le_of_ble_eq_true rfl) rfl ?_
          obtain ⟨I64, hL965, h⟩ := obi h
          refine wp_pick (ks := [1, 0]) rfl (wX11_network_237 d hd hS   N 0 I51 _ hL965 (fun _ e66 => ?_))
          cases e66
          refine wp_aload_n dX11_network_290 rfl rfl ?_
          refine wp_iconst (v := 0) dX11_network_291 (by decide) ?_
          refine wp_putI dX11_network_292 (Or.inl fpX11_209) rfl ⟨rfl, rfl⟩ (sk310 hS) (sn310 hS) ?_
          refine wp_aload_n dX11_network_295 rfl rfl ?_
          refine wp_iconst (v := 0) dX11_network_296 (by decide) ?_
          refine wp_putI dX11_network_297 (Or.inl fpX11_212) rfl ⟨rfl, rfl⟩ (sk310 hS) (sn310 hS) ?_
          refine wp_aload_n dX11_network_300 rfl rfl ?_
          refine wp_iconst (v := 0) dX11_network_301 (by decide) ?_
          refine wp_putI dX11_network_302 (Or.inl fpX11_215) rfl ⟨rfl, rfl⟩ (sk310 hS) (sn310 hS) ?_
          refine wp_iconst (v := 0) dX11_network_305 (by decide) ?_
          exact wp_iret dX11_network_306 rfl (by obtain rfl := sji h; exact ⟨rfl, rfl, rfl, rfl⟩)
        · have h := ite_t hc44 h
          refine wp_aload_n dX11_network_158 rfl rfl ?_
          refine wp_getR dX11_network_159 flX11_17 rfl (sk310 hS) (sn310 hS) (sr310_5 hS) ?_
          refine wp_iconst (v := 0) dX11_network_162 (by decide) ?_
          refine wp_dup2 dX11_network_163 rfl rfl ?_
          refine wp_iald dX11_network_164 (sk312 hS) (sn312 hS) (inb_in (by decide)) ?_
          refine wp_iconst (v := 1) dX11_network_165 (by decide) ?_
          refine wp_iadd dX11_network_166 ?_
          refine wp_iast dX11_network_167 (sk312 hS) (sn312 hS) (inb_in (by decide)) ?_
          obtain ⟨I67, hx68, h⟩ := nm_inv h
          refine wp_nmI hx68 ?_
          refine wp_aload_n dX11_network_168 rfl rfl ?_
          refine wp_getI dX11_network_169 flX11_141 rfl (sk310 hS) (sn310 hS) ?_
          exact wp_iret dX11_network_172 rfl (by obtain rfl := sji h; exact ⟨rfl, rfl, rfl, rfl⟩)
      clear h
      have h := hh71
      clear hh71
      refine wp_if_eq (tgt := 130) dX11_network_95 (by decide) (fun hc19 => ?_) (fun hc19 => ?_)
      · have h := ite_t hc19 h
        cases h
        exact wp_pick (ks := [0]) rfl hJ
      · have h := ite_f hc19 h
        refine wp_aload_n dX11_network_98 rfl rfl ?_
        obtain ⟨⟨I20, J21⟩, hF22, h⟩ := obi h
        refine wp_callVv (ci := 11) (As := []) dX11_network_99 lbX11_goes mlX11_148 imX11_goes seX11_goes vc11 (ct_X11_goes N 1 (Nat.le_refl _) hS  hF22) rfl rfl (Nat.le_trans (by decide) hd) (sk310 hS) (sn310 hS) (Nat.le_of_ble_eq_true rfl) (fun _ => ?_)
        refine wp_aload_n dX11_network_102 rfl rfl ?_
        refine wp_aload_n dX11_network_103 rfl rfl ?_
        refine wp_iconst (v := 2) dX11_network_104 (by decide) ?_
        refine wp_bipush (v := 8) dX11_network_105 (by decide) ?_
        obtain ⟨⟨r23, I24, J25⟩, hF26, h⟩ := obi h
        refine wp_callVi (ci := 11) (As := [.int 2, .int 8]) dX11_network_107 lbX11_number mlX11_163 imX11_number seX11_number vc11 (ct_X11_number N 2 (Nat.le_refl _) hS  hF26) rfl rfl (Nat.le_trans (by decide) hd) (sk310 hS) (sn310 hS) (Nat.le_of_ble_eq_true rfl) (fun _ => ?_)
        refine wp_putI dX11_network_110 (Or.inl fpX11_154) rfl ⟨rfl, rfl⟩ (sk310 hS) (sn310 hS) ?_
        refine wp_aload_n dX11_network_113 rfl rfl ?_
        refine wp_aload_n dX11_network_114 rfl rfl ?_
        refine wp_getI dX11_network_115 flX11_126 rfl (sk310 hS) (sn310 hS) ?_
        refine wp_iconst (v := 3) dX11_network_118 (by decide) ?_
        obtain ⟨x27, hh32, h⟩ := obi h
        have hJ : Wp RX11 cX11_network 3 (some .int) [] hF d 0 0 127 [(0, .ref 310)] [.int x27, .ref 310] S (upd2 I24 310 16 r23) J25 (qE (.inl (some (.int r.1))) S r.2.1 r.2.2) := by
          obtain ⟨⟨I29, J30⟩, hF31, h⟩ := obi h
          refine wp_callVv (ci := 11) (As := [.int x27]) dX11_network_127 lbX11_need mlX11_188 imX11_need seX11_need vc11 (ct_X11_need N 2 (Nat.le_refl _) hS  hF31) rfl rfl (Nat.le_trans (by decide) hd) (sk310 hS) (sn310 hS) (Nat.le_of_ble_eq_true rfl) (fun _ => ?_)
          cases h
          exact wp_pick (ks := [0]) rfl hJ
        clear h
        have h := hh32
        clear hh32
        refine wp_icmp_ne (tgt := 126) dX11_network_119 (by decide) (fun hc28 => ?_) (fun hc28 => ?_)
        · have h := ite_f hc28 h
          refine wp_iconst (v := 0) dX11_network_126 (by decide) ?_
          cases h
          exact wp_pick (ks := [0]) rfl hJ
        · have h := ite_t hc28 h
          refine wp_iconst (v := 1) dX11_network_122 (by decide) ?_
          refine wp_goto (tgt := 127) dX11_network_123 (by decide) ?_
          cases h
          exact wp_pick (ks := [0]) rfl hJ
    · have h := ite_t hc7 h
      refine wp_iconst (v := 0) dX11_network_30 (by decide) ?_
      exact wp_iret dX11_network_31 rfl (by obtain rfl := sji h; exact ⟨rfl, rfl, rfl, rfl⟩)
  clear h
  have h := hh72
  clear hh72
  refine wp_if_lt (tgt := 22) dX11_network_7 (by decide) (fun hc2 => ?_) (fun hc2 => ?_)
  · have h := ite_t hc2 h
    refine wp_iconst (v := 0) dX11_network_22 (by decide) ?_
    cases h
    exact wp_pick (ks := [0, 1]) rfl hJ
  · have h := ite_f hc2 h
    refine wp_iload_n dX11_network_10 rfl rfl ?_
    refine wp_aload_n dX11_network_11 rfl rfl ?_
    refine wp_getI dX11_network_12 flX11_99 rfl (sk310 hS) (sn310 hS) ?_
    refine wp_icmp_gt (tgt := 22) dX11_network_15 (by decide) (fun hc3 => ?_) (fun hc3 => ?_)
    · have h := ite_t hc3 h
      refine wp_iconst (v := 0) dX11_network_22 (by decide) ?_
      cases h
      exact wp_pick (ks := [0, 1]) rfl hJ
    · have h := ite_f hc3 h
      refine wp_iconst (v := 1) dX11_network_18 (by decide) ?_
      refine wp_goto (tgt := 23) dX11_network_19 (by decide) ?_
      cases h
      exact wp_pick (ks := [0, 1]) rfl hJ
def mX11_fault (I : gI) : Option (Int32 × gI) := some ((upd2 I 310 0 0) 310 4, upd2 I 310 0 0)
set_option maxHeartbeats 4000000 in
set_option maxRecDepth 100000 in
theorem ct_X11_fault (d : Nat) (hd : 0 ≤ d) {S : gS} {J : gJ} (hS : Sh S)  {I : gI} {r : Int32 × gI} (h : mX11_fault I = some r) : Ct yX11_fault (wsY yX11_fault cX11_fault 1 (some .int)) d 0 0 [.ref 310] S I J (qE (.inl (some (.int r.1))) S r.2 J) := by
  refine Ct.of hF (fun _ _ _ _ _ => trivial) (by decide +kernel) (Nat.le_of_ble_eq_true rfl) ⟨Or.inl (sn310 hS), trivial⟩ ?_
  show Wp RX11 cX11_fault 1 (some .int) [] hF d 0 0 0 [(0, .ref 310)] [] S I J _
  unfold mX11_fault at h
  refine wp_aload_n dX11_fault_0 rfl rfl ?_
  refine wp_iconst (v := 0) dX11_fault_1 (by decide) ?_
  refine wp_putI dX11_fault_2 (Or.inl fpX11_96) rfl ⟨rfl, rfl⟩ (sk310 hS) (sn310 hS) ?_
  refine wp_aload_n dX11_fault_5 rfl rfl ?_
  refine wp_getI dX11_fault_6 flX11_13 rfl (sk310 hS) (sn310 hS) ?_
  exact wp_iret dX11_fault_9 rfl (by obtain rfl := sji h; exact ⟨rfl, rfl, rfl, rfl⟩)
def mX11_keeps_12  : Nat → Int32 → gI → Option (gI)
  | 0, _, _ => none
  | n + 1, v1, I => if 3280 ≤ v1 then (some I) else (ck v1 3280 (ck (v1 - 82) 3280 (mX11_keeps_12 n (v1 + 1) (upd2 I 318 (v1 - 82).toNatClampNeg (I 318 v1.toNatClampNeg)))))
def mX11_keeps_52  : Nat → Int32 → gI → Option (gI)
  | 0, _, _ => none
  | n + 1, v1, I => if 82 ≤ v1 then (some I) else (ck v1 164 (ck ((82 * (I 310 25)) + v1) 3280 (nm (upd2 I 318 ((82 * (I 310 25)) + v1).toNatClampNeg (I 317 v1.toNatClampNeg)) (fun I12 => mX11_keeps_52 n (v1 + 1) I12))))
def mX11_keeps (N : Nat) (I : gI) : Option (gI) := Option.bind (if (I 310 25) = 40 then (Option.bind (mX11_keeps_12 N 82 I) (fun I6 => some (upd2 I6 310 25 ((I6 310 25) - 1)))) else (some I) : Option (gI)) (fun I1 => Option.bind (mX11_keeps_52 N 0 I1) (fun I14 => some (upd2 I14 310 25 ((I14 310 25) + 1))))
set_option maxHeartbeats 4000000 in
set_option maxRecDepth 100000 in
theorem wX11_keeps_12 (d : Nat) (hd : 0 ≤ d) {S : gS} {J : gJ} (hS : Sh S)  {Q : gO → gS → gI → gJ → Prop} :
    ∀ (n : Nat) (v1 : Int32) (I : gI) (res : gI), mX11_keeps_12 n v1 I = some res → (∀ (O : gI), res = O → Wp RX11 cX11_keeps 2 none [] hF d 0 0 40 [(0, .ref 310)] [] S O J Q) → Wp RX11 cX11_keeps 2 none [] hF d 0 0 12 [(0, .ref 310), (1, .int v1)] [] S I J Q := by
  intro n
  induction n with
  | zero => intro v1 I res h; exact nso h
  | succ n ih =>
    intro v1 I res h kx
    rw [mX11_keeps_12] at h
    refine wp_iload_n dX11_keeps_12 rfl rfl ?_
    refine wp_sipush (v := 3280) dX11_keeps_13 (by decide) ?_
    refine wp_icmp_ge (tgt := 40) dX11_keeps_16 (by decide) (fun hc3 => ?_) (fun hc3 => ?_)
    · have h := ite_t hc3 h
      exact wp_pick (ks := [0]) rfl (kx _ (sji h).symm)
    · have h := ite_f hc3 h
      refine wp_aload_n dX11_keeps_19 rfl rfl ?_
      refine wp_getR dX11_keeps_20 flX11_38 rfl (sk310 hS) (sn310 hS) (sr310_24 hS) ?_
      refine wp_iload_n dX11_keeps_23 rfl rfl ?_
      refine wp_bipush (v := 82) dX11_keeps_24 (by decide) ?_
      refine wp_isub dX11_keeps_26 ?_
      refine wp_aload_n dX11_keeps_27 rfl rfl ?_
      refine wp_getR dX11_keeps_28 flX11_38 rfl (sk310 hS) (sn310 hS) (sr310_24 hS) ?_
      refine wp_iload_n dX11_keeps_31 rfl rfl ?_
      obtain ⟨hb4, h⟩ := ck_inv h
      refine wp_iald dX11_keeps_32 (sk318 hS) (sn318 hS) hb4 ?_
      obtain ⟨hb5, h⟩ := ck_inv h
      refine wp_iast dX11_keeps_33 (sk318 hS) (sn318 hS) hb5 ?_
      refine wp_iinc (v := 1) (ls' := [(1, .int (v1 + 1)), (0, .ref 310)]) dX11_keeps_34 rfl (by decide) (Nat.le_of_ble_eq_true rfl) rfl ?_
      refine wp_goto (tgt := 12) dX11_keeps_37 (by decide) ?_
      exact wp_pick (ks := [1, 0]) rfl (ih _ _ _ h kx)
set_option maxHeartbeats 4000000 in
set_option maxRecDepth 100000 in
theorem wX11_keeps_52 (d : Nat) (hd : 0 ≤ d) {S : gS} {J : gJ} (hS : Sh S)  {Q : gO → gS → gI → gJ → Prop} :
    ∀ (n : Nat) (v1 : Int32) (I : gI) (res : gI), mX11_keeps_52 n v1 I = some res → (∀ (O : gI), res = O → Wp RX11 cX11_keeps 2 none [] hF d 0 0 84 [(0, .ref 310)] [] S O J Q) → Wp RX11 cX11_keeps 2 none [] hF d 0 0 52 [(0, .ref 310), (1, .int v1)] [] S I J Q := by
  intro n
  induction n with
  | zero => intro v1 I res h; exact nso h
  | succ n ih =>
    intro v1 I res h kx
    rw [mX11_keeps_52] at h
    refine wp_iload_n dX11_keeps_52 rfl rfl ?_
    refine wp_bipush (v := 82) dX11_keeps_53 (by decide) ?_
    refine wp_icmp_ge (tgt := 84) dX11_keeps_55 (by decide) (fun hc9 => ?_) (fun hc9 => ?_)
    · have h := ite_t hc9 h
      exact wp_pick (ks := [0]) rfl (kx _ (sji h).symm)
    · have h := ite_f hc9 h
      refine wp_aload_n dX11_keeps_58 rfl rfl ?_
      refine wp_getR dX11_keeps_59 flX11_38 rfl (sk310 hS) (sn310 hS) (sr310_24 hS) ?_
      refine wp_bipush (v := 82) dX11_keeps_62 (by decide) ?_
      refine wp_aload_n dX11_keeps_64 rfl rfl ?_
      refine wp_getI dX11_keeps_65 flX11_209 rfl (sk310 hS) (sn310 hS) ?_
      refine wp_imul dX11_keeps_68 ?_
      refine wp_iload_n dX11_keeps_69 rfl rfl ?_
      refine wp_iadd dX11_keeps_70 ?_
      refine wp_aload_n dX11_keeps_71 rfl rfl ?_
      refine wp_getR dX11_keeps_72 flX11_35 rfl (sk310 hS) (sn310 hS) (sr310_23 hS) ?_
      refine wp_iload_n dX11_keeps_75 rfl rfl ?_
      obtain ⟨hb10, h⟩ := ck_inv h
      refine wp_iald dX11_keeps_76 (sk317 hS) (sn317 hS) hb10 ?_
      obtain ⟨hb11, h⟩ := ck_inv h
      refine wp_iast dX11_keeps_77 (sk318 hS) (sn318 hS) hb11 ?_
      obtain ⟨I12, hx13, h⟩ := nm_inv h
      refine wp_nmI hx13 ?_
      refine wp_iinc (v := 1) (ls' := [(1, .int (v1 + 1)), (0, .ref 310)]) dX11_keeps_78 rfl (by decide) (Nat.le_of_ble_eq_true rfl) rfl ?_
      refine wp_goto (tgt := 52) dX11_keeps_81 (by decide) ?_
      exact wp_pick (ks := [1, 0]) rfl (ih _ _ _ h kx)
set_option maxHeartbeats 4000000 in
set_option maxRecDepth 100000 in
theorem ct_X11_keeps (N : Nat) (d : Nat) (hd : 0 ≤ d) {S : gS} {J : gJ} (hS : Sh S)  {I : gI} {r : gI} (h : mX11_keeps N I = some r) : Ct yX11_keeps (wsY yX11_keeps cX11_keeps 2 none) d 0 0 [.ref 310] S I J (qE (.inl none) S r J) := by
  refine Ct.of hF (fun _ _ _ _ _ => trivial) (by decide +kernel) (Nat.le_of_ble_eq_true rfl) ⟨Or.inl (sn310 hS), trivial⟩ ?_
  show Wp RX11 cX11_keeps 2 none [] hF d 0 0 0 [(0, .ref 310)] [] S I J _
  unfold mX11_keeps at h
  refine wp_aload_n dX11_keeps_0 rfl rfl ?_
  refine wp_getI dX11_keeps_1 flX11_209 rfl (sk310 hS) (sn310 hS) ?_
  refine wp_bipush (v := 40) dX11_keeps_4 (by decide) ?_
  obtain ⟨I1, hh17, h⟩ := obi h
  have hJ : Wp RX11 cX11_keeps 2 none [] hF d 0 0 50 [(0, .ref 310)] [] S I1 J (qE (.inl none) S r J) := by
    refine wp_iconst (v := 0) dX11_keeps_50 (by decide) ?_
    refine wp_istore_n (ls' := [(1, .int 0), (0, .ref 310)]) dX11_keeps_51 rfl (Nat.le_of_ble_eq_true rfl) rfl ?_
    obtain ⟨I14, hL915, h⟩ := obi h
    refine wp_pick (ks := [1, 0]) rfl (wX11_keeps_52 d hd hS   N 0 I1 _ hL915 (fun _ e16 => ?_))
    cases e16
    refine wp_aload_n dX11_keeps_84 rfl rfl ?_
    refine wp_dup dX11_keeps_85 rfl ?_
    refine wp_getI dX11_keeps_86 flX11_209 rfl (sk310 hS) (sn310 hS) ?_
    refine wp_iconst (v := 1) dX11_keeps_89 (by decide) ?_
    refine wp_iadd dX11_keeps_90 ?_
    refine wp_putI dX11_keeps_91 (Or.inl fpX11_209) rfl ⟨rfl, rfl⟩ (sk310 hS) (sn310 hS) ?_
    exact wp_vret dX11_keeps_94 rfl (by obtain rfl := sji h; exact ⟨rfl, rfl, rfl, rfl⟩)
  clear h
  have h := hh17
  clear hh17
  refine wp_icmp_ne (tgt := 50) dX11_keeps_6 (by decide) (fun hc2 => ?_) (fun hc2 => ?_)
  · have h := ite_f hc2 h
    cases h
    exact wp_pick (ks := [0]) rfl hJ
  · have h := ite_t hc2 h
    refine wp_bipush (v := 82) dX11_keeps_9 (by decide) ?_
    refine wp_istore_n (ls' := [(1, .int 82), (0, .ref 310)]) dX11_keeps_11 rfl (Nat.le_of_ble_eq_true rfl) rfl ?_
    obtain ⟨I6, hL97, h⟩ := obi h
    refine wp_pick (ks := [1, 0]) rfl (wX11_keeps_12 d hd hS   N 82 I _ hL97 (fun _ e8 => ?_))
    cases e8
    refine wp_aload_n dX11_keeps_40 rfl rfl ?_
    refine wp_dup dX11_keeps_41 rfl ?_
    refine wp_getI dX11_keeps_42 flX11_209 rfl (sk310 hS) (sn310 hS) ?_
    refine wp_iconst (v := 1) dX11_keeps_45 (by decide) ?_
    refine wp_isub dX11_keeps_46 ?_
    refine wp_putI dX11_keeps_47 (Or.inl fpX11_209) rfl ⟨rfl, rfl⟩ (sk310 hS) (sn310 hS) ?_
    cases h
    exact wp_pick (ks := [0]) rfl hJ
def mX11_refuses (a2 : Int32) (I : gI) : Option (Int32 × gI) := ck a2 3 (some ((-1), upd2 I 312 a2.toNatClampNeg ((I 312 a2.toNatClampNeg) + 1)))
set_option maxHeartbeats 4000000 in
set_option maxRecDepth 100000 in
theorem ct_X11_refuses (d : Nat) (hd : 0 ≤ d) {S : gS} {J : gJ} (hS : Sh S)  {a2 : Int32} {I : gI} {r : Int32 × gI} (h : mX11_refuses a2 I = some r) : Ct yX11_refuses (wsY yX11_refuses cX11_refuses 2 (some .int)) d 0 0 [.ref 310, .int a2] S I J (qE (.inl (some (.int r.1))) S r.2 J) := by
  refine Ct.of hF (fun _ _ _ _ _ => trivial) (by decide +kernel) (Nat.le_of_ble_eq_true rfl) ⟨Or.inl (sn310 hS), trivial, trivial⟩ ?_
  show Wp RX11 cX11_refuses 2 (some .int) [] hF d 0 0 0 [(0, .ref 310), (1, .int a2)] [] S I J _
  unfold mX11_refuses at h
  refine wp_aload_n dX11_refuses_0 rfl rfl ?_
  refine wp_getR dX11_refuses_1 flX11_17 rfl (sk310 hS) (sn310 hS) (sr310_5 hS) ?_
  refine wp_iload_n dX11_refuses_4 rfl rfl ?_
  refine wp_dup2 dX11_refuses_5 rfl rfl ?_
  obtain ⟨hb1, h⟩ := ck_inv h
  refine wp_iald dX11_refuses_6 (sk312 hS) (sn312 hS) hb1 ?_
  refine wp_iconst (v := 1) dX11_refuses_7 (by decide) ?_
  refine wp_iadd dX11_refuses_8 ?_
  refine wp_iast dX11_refuses_9 (sk312 hS) (sn312 hS) hb1 ?_
  refine wp_iconst (v := (-1)) dX11_refuses_10 (by decide) ?_
  exact wp_iret dX11_refuses_11 rfl (by obtain rfl := sji h; exact ⟨rfl, rfl, rfl, rfl⟩)
def mX11_undo_26  : Nat → Int32 → gI → Option (gI)
  | 0, _, _ => none
  | n + 1, v1, I => if 82 ≤ v1 then (some I) else (ck ((82 * (I 310 25)) + v1) 3280 (ck v1 164 (nm (upd2 I 317 v1.toNatClampNeg (I 318 ((82 * (I 310 25)) + v1).toNatClampNeg)) (fun I5 => mX11_undo_26 n (v1 + 1) I5))))
def mX11_undo (N : Nat) (I : gI) : Option (Int32 × gI) := if ((upd2 I 310 0 0) 310 25) = 0 then (some ((-1), upd2 I 310 0 0)) else (Option.bind (mX11_undo_26 N 0 (upd2 (upd2 I 310 0 0) 310 25 (((upd2 I 310 0 0) 310 25) - 1))) (fun I7 => some (I7 310 25, I7)))
set_option maxHeartbeats 4000000 in
set_option maxRecDepth 100000 in
theorem wX11_undo_26 (d : Nat) (hd : 0 ≤ d) {S : gS} {J : gJ} (hS : Sh S)  {Q : gO → gS → gI → gJ → Prop} :
    ∀ (n : Nat) (v1 : Int32) (I : gI) (res : gI), mX11_undo_26 n v1 I = some res → (∀ (O : gI), res = O → Wp RX11 cX11_undo 2 (some .int) [] hF d 0 0 58 [(0, .ref 310)] [] S O J Q) → Wp RX11 cX11_undo 2 (some .int) [] hF d 0 0 26 [(0, .ref 310), (1, .int v1)] [] S I J Q := by
  intro n
  induction n with
  | zero => intro v1 I res h; exact nso h
  | succ n ih =>
    intro v1 I res h kx
    rw [mX11_undo_26] at h
    refine wp_iload_n dX11_undo_26 rfl rfl ?_
    refine wp_bipush (v := 82) dX11_undo_27 (by decide) ?_
    refine wp_icmp_ge (tgt := 58) dX11_undo_29 (by decide) (fun hc2 => ?_) (fun hc2 => ?_)
    · have h := ite_t hc2 h
      exact wp_pick (ks := [0]) rfl (kx _ (sji h).symm)
    · have h := ite_f hc2 h
      refine wp_aload_n dX11_undo_32 rfl rfl ?_
      refine wp_getR dX11_undo_33 flX11_35 rfl (sk310 hS) (sn310 hS) (sr310_23 hS) ?_
      refine wp_iload_n dX11_undo_36 rfl rfl ?_
      refine wp_aload_n dX11_undo_37 rfl rfl ?_
      refine wp_getR dX11_undo_38 flX11_38 rfl (sk310 hS) (sn310 hS) (sr310_24 hS) ?_
      refine wp_bipush (v := 82) dX11_undo_41 (by decide) ?_
      refine wp_aload_n dX11_undo_43 rfl rfl ?_
      refine wp_getI dX11_undo_44 flX11_209 rfl (sk310 hS) (sn310 hS) ?_
      refine wp_imul dX11_undo_47 ?_
      refine wp_iload_n dX11_undo_48 rfl rfl ?_
      refine wp_iadd dX11_undo_49 ?_
      obtain ⟨hb3, h⟩ := ck_inv h
      refine wp_iald dX11_undo_50 (sk318 hS) (sn318 hS) hb3 ?_
      obtain ⟨hb4, h⟩ := ck_inv h
      refine wp_iast dX11_undo_51 (sk317 hS) (sn317 hS) hb4 ?_
      obtain ⟨I5, hx6, h⟩ := nm_inv h
      refine wp_nmI hx6 ?_
      refine wp_iinc (v := 1) (ls' := [(1, .int (v1 + 1)), (0, .ref 310)]) dX11_undo_52 rfl (by decide) (Nat.le_of_ble_eq_true rfl) rfl ?_
      refine wp_goto (tgt := 26) dX11_undo_55 (by decide) ?_
      exact wp_pick (ks := [1, 0]) rfl (ih _ _ _ h kx)
set_option maxHeartbeats 4000000 in
set_option maxRecDepth 100000 in
theorem ct_X11_undo (N : Nat) (d : Nat) (hd : 0 ≤ d) {S : gS} {J : gJ} (hS : Sh S)  {I : gI} {r : Int32 × gI} (h : mX11_undo N I = some r) : Ct yX11_undo (wsY yX11_undo cX11_undo 2 (some .int)) d 0 0 [.ref 310] S I J (qE (.inl (some (.int r.1))) S r.2 J) := by
  refine Ct.of hF (fun _ _ _ _ _ => trivial) (by decide +kernel) (Nat.le_of_ble_eq_true rfl) ⟨Or.inl (sn310 hS), trivial⟩ ?_
  show Wp RX11 cX11_undo 2 (some .int) [] hF d 0 0 0 [(0, .ref 310)] [] S I J _
  unfold mX11_undo at h
  refine wp_aload_n dX11_undo_0 rfl rfl ?_
  refine wp_iconst (v := 0) dX11_undo_1 (by decide) ?_
  refine wp_putI dX11_undo_2 (Or.inl fpX11_96) rfl ⟨rfl, rfl⟩ (sk310 hS) (sn310 hS) ?_
  refine wp_aload_n dX11_undo_5 rfl rfl ?_
  refine wp_getI dX11_undo_6 flX11_209 rfl (sk310 hS) (sn310 hS) ?_
  refine wp_if_ne (tgt := 14) dX11_undo_9 (by decide) (fun hc1 => ?_) (fun hc1 => ?_)
  · have h := ite_f hc1 h
    refine wp_aload_n dX11_undo_14 rfl rfl ?_
    refine wp_dup dX11_undo_15 rfl ?_
    refine wp_getI dX11_undo_16 flX11_209 rfl (sk310 hS) (sn310 hS) ?_
    refine wp_iconst (v := 1) dX11_undo_19 (by decide) ?_
    refine wp_isub dX11_undo_20 ?_
    refine wp_putI dX11_undo_21 (Or.inl fpX11_209) rfl ⟨rfl, rfl⟩ (sk310 hS) (sn310 hS) ?_
    refine wp_iconst (v := 0) dX11_undo_24 (by decide) ?_
    refine wp_istore_n (ls' := [(1, .int 0), (0, .ref 310)]) dX11_undo_25 rfl (Nat.le_of_ble_eq_true rfl) rfl ?_
    obtain ⟨I7, hL98, h⟩ := obi h
    refine wp_pick (ks := [1, 0]) rfl (wX11_undo_26 d hd hS   N 0 (upd2 (upd2 I 310 0 0) 310 25 (((upd2 I 310 0 0) 310 25) - 1)) _ hL98 (fun _ e9 => ?_))
    cases e9
    refine wp_aload_n dX11_undo_58 rfl rfl ?_
    refine wp_getI dX11_undo_59 flX11_209 rfl (sk310 hS) (sn310 hS) ?_
    exact wp_iret dX11_undo_62 rfl (by obtain rfl := sji h; exact ⟨rfl, rfl, rfl, rfl⟩)
  · have h := ite_t hc1 h
    refine wp_iconst (v := (-1)) dX11_undo_12 (by decide) ?_
    exact wp_iret dX11_undo_13 rfl (by obtain rfl := sji h; exact ⟨rfl, rfl, rfl, rfl⟩)
def mX11_tries_2  : Nat → Int32 → gI → Option (gI)
  | 0, _, _ => none
  | n + 1, v1, I => if 82 ≤ v1 then (some I) else (ck v1 164 (ck (82 + v1) 164 (mX11_tries_2 n (v1 + 1) (upd2 I 317 (82 + v1).toNatClampNeg (I 317 v1.toNatClampNeg)))))
def mX11_tries (N : Nat) (I : gI) : Option (gI) := Option.bind (mX11_tries_2 N 0 I) (fun I4 => some I4)
set_option maxHeartbeats 4000000 in
set_option maxRecDepth 100000 in
theorem wX11_tries_2 (d : Nat) (hd : 0 ≤ d) {S : gS} {J : gJ} (hS : Sh S)  {Q : gO → gS → gI → gJ → Prop} :
    ∀ (n : Nat) (v1 : Int32) (I : gI) (res : gI), mX11_tries_2 n v1 I = some res → (∀ (O : gI), res = O → Wp RX11 cX11_tries 2 none [] hF d 0 0 29 [] [] S O J Q) → Wp RX11 cX11_tries 2 none [] hF d 0 0 2 [(0, .ref 310), (1, .int v1)] [] S I J Q := by
  intro n
  induction n with
  | zero => intro v1 I res h; exact nso h
  | succ n ih =>
    intro v1 I res h kx
    rw [mX11_tries_2] at h
    refine wp_iload_n dX11_tries_2 rfl rfl ?_
    refine wp_bipush (v := 82) dX11_tries_3 (by decide) ?_
    refine wp_icmp_ge (tgt := 29) dX11_tries_5 (by decide) (fun hc1 => ?_) (fun hc1 => ?_)
    · have h := ite_t hc1 h
      exact wp_pick (ks := []) rfl (kx _ (sji h).symm)
    · have h := ite_f hc1 h
      refine wp_aload_n dX11_tries_8 rfl rfl ?_
      refine wp_getR dX11_tries_9 flX11_35 rfl (sk310 hS) (sn310 hS) (sr310_23 hS) ?_
      refine wp_bipush (v := 82) dX11_tries_12 (by decide) ?_
      refine wp_iload_n dX11_tries_14 rfl rfl ?_
      refine wp_iadd dX11_tries_15 ?_
      refine wp_aload_n dX11_tries_16 rfl rfl ?_
      refine wp_getR dX11_tries_17 flX11_35 rfl (sk310 hS) (sn310 hS) (sr310_23 hS) ?_
      refine wp_iload_n dX11_tries_20 rfl rfl ?_
      obtain ⟨hb2, h⟩ := ck_inv h
      refine wp_iald dX11_tries_21 (sk317 hS) (sn317 hS) hb2 ?_
      obtain ⟨hb3, h⟩ := ck_inv h
      refine wp_iast dX11_tries_22 (sk317 hS) (sn317 hS) hb3 ?_
      refine wp_iinc (v := 1) (ls' := [(1, .int (v1 + 1)), (0, .ref 310)]) dX11_tries_23 rfl (by decide) (Nat.le_of_ble_eq_true rfl) rfl ?_
      refine wp_goto (tgt := 2) dX11_tries_26 (by decide) ?_
      exact wp_pick (ks := [1, 0]) rfl (ih _ _ _ h kx)
set_option maxHeartbeats 4000000 in
set_option maxRecDepth 100000 in
theorem ct_X11_tries (N : Nat) (d : Nat) (hd : 0 ≤ d) {S : gS} {J : gJ} (hS : Sh S)  {I : gI} {r : gI} (h : mX11_tries N I = some r) : Ct yX11_tries (wsY yX11_tries cX11_tries 2 none) d 0 0 [.ref 310] S I J (qE (.inl none) S r J) := by
  refine Ct.of hF (fun _ _ _ _ _ => trivial) (by decide +kernel) (Nat.le_of_ble_eq_true rfl) ⟨Or.inl (sn310 hS), trivial⟩ ?_
  show Wp RX11 cX11_tries 2 none [] hF d 0 0 0 [(0, .ref 310)] [] S I J _
  unfold mX11_tries at h
  refine wp_iconst (v := 0) dX11_tries_0 (by decide) ?_
  refine wp_istore_n (ls' := [(1, .int 0), (0, .ref 310)]) dX11_tries_1 rfl (Nat.le_of_ble_eq_true rfl) rfl ?_
  obtain ⟨I4, hL95, h⟩ := obi h
  refine wp_pick (ks := [1, 0]) rfl (wX11_tries_2 d hd hS   N 0 I _ hL95 (fun _ e6 => ?_))
  cases e6
  exact wp_vret dX11_tries_29 rfl (by obtain rfl := sji h; exact ⟨rfl, rfl, rfl, rfl⟩)
def mX11_isUp (a2 : Int32) (a3 : Int32) (I : gI) : Option (Int32) := ck (a2 + 0) 164 (if (((I 317 (a2 + 0).toNatClampNeg) >>> (a3 &&& 31)) &&& 1) = 1 then (some 1) else (some 0))
set_option maxHeartbeats 4000000 in
set_option maxRecDepth 100000 in
theorem ct_X11_isUp (d : Nat) (hd : 0 ≤ d) {S : gS} {J : gJ} (hS : Sh S)  {a2 : Int32} {a3 : Int32} {I : gI} {r : Int32} (h : mX11_isUp a2 a3 I = some r) : Ct yX11_isUp (wsY yX11_isUp cX11_isUp 3 (some .boolean)) d 0 0 [.ref 310, .int a2, .int a3] S I J (qE (.inl (some (.int r))) S I J) := by
  refine Ct.of hF (fun _ _ _ _ _ => trivial) (by decide +kernel) (Nat.le_of_ble_eq_true rfl) ⟨Or.inl (sn310 hS), trivial, trivial, trivial⟩ ?_
  show Wp RX11 cX11_isUp 3 (some .boolean) [] hF d 0 0 0 [(0, .ref 310), (1, .int a2), (2, .int a3)] [] S I J _
  unfold mX11_isUp at h
  refine wp_aload_n dX11_isUp_0 rfl rfl ?_
  refine wp_getR dX11_isUp_1 flX11_35 rfl (sk310 hS) (sn310 hS) (sr310_23 hS) ?_
  refine wp_iload_n dX11_isUp_4 rfl rfl ?_
  refine wp_iconst (v := 0) dX11_isUp_5 (by decide) ?_
  refine wp_iadd dX11_isUp_6 ?_
  obtain ⟨hb1, h⟩ := ck_inv h
  refine wp_iald dX11_isUp_7 (sk317 hS) (sn317 hS) hb1 ?_
  refine wp_iload_n dX11_isUp_8 rfl rfl ?_
  refine wp_ishr dX11_isUp_9 ?_
  refine wp_iconst (v := 1) dX11_isUp_10 (by decide) ?_
  refine wp_iand dX11_isUp_11 ?_
  refine wp_iconst (v := 1) dX11_isUp_12 (by decide) ?_
  refine wp_icmp_ne (tgt := 20) dX11_isUp_13 (by decide) (fun hc2 => ?_) (fun hc2 => ?_)
  · have h := ite_f hc2 h
    refine wp_iconst (v := 0) dX11_isUp_20 (by decide) ?_
    exact wp_zret dX11_isUp_21 rfl (by decide) (by obtain rfl := sji h; exact ⟨rfl, rfl, rfl, rfl⟩)
  · have h := ite_t hc2 h
    refine wp_iconst (v := 1) dX11_isUp_16 (by decide) ?_
    refine wp_goto (tgt := 21) dX11_isUp_17 (by decide) ?_
    exact wp_zret dX11_isUp_21 rfl (by decide) (by obtain rfl := sji h; exact ⟨rfl, rfl, rfl, rfl⟩)
def mX11_doesStand (a2 : Int32) (a3 : Int32) (I : gI) : Option (Int32) := ck ((a2 + 10) + a3) 164 (if (I 317 ((a2 + 10) + a3).toNatClampNeg) = (-1) then (some 0) else (some 1))
set_option maxHeartbeats 4000000 in
set_option maxRecDepth 100000 in
theorem ct_X11_doesStand (d : Nat) (hd : 0 ≤ d) {S : gS} {J : gJ} (hS : Sh S)  {a2 : Int32} {a3 : Int32} {I : gI} {r : Int32} (h : mX11_doesStand a2 a3 I = some r) : Ct yX11_doesStand (wsY yX11_doesStand cX11_doesStand 3 (some .boolean)) d 0 0 [.ref 310, .int a2, .int a3] S I J (qE (.inl (some (.int r))) S I J) := by
  refine Ct.of hF (fun _ _ _ _ _ => trivial) (by decide +kernel) (Nat.le_of_ble_eq_true rfl) ⟨Or.inl (sn310 hS), trivial, trivial, trivial⟩ ?_
  show Wp RX11 cX11_doesStand 3 (some .boolean) [] hF d 0 0 0 [(0, .ref 310), (1, .int a2), (2, .int a3)] [] S I J _
  unfold mX11_doesStand at h
  refine wp_aload_n dX11_doesStand_0 rfl rfl ?_
  refine wp_getR dX11_doesStand_1 flX11_35 rfl (sk310 hS) (sn310 hS) (sr310_23 hS) ?_
  refine wp_iload_n dX11_doesStand_4 rfl rfl ?_
  refine wp_bipush (v := 10) dX11_doesStand_5 (by decide) ?_
  refine wp_iadd dX11_doesStand_7 ?_
  refine wp_iload_n dX11_doesStand_8 rfl rfl ?_
  refine wp_iadd dX11_doesStand_9 ?_
  obtain ⟨hb1, h⟩ := ck_inv h
  refine wp_iald dX11_doesStand_10 (sk317 hS) (sn317 hS) hb1 ?_
  refine wp_iconst (v := (-1)) dX11_doesStand_11 (by decide) ?_
  refine wp_icmp_eq (tgt := 19) dX11_doesStand_12 (by decide) (fun hc2 => ?_) (fun hc2 => ?_)
  · have h := ite_t hc2 h
    refine wp_iconst (v := 0) dX11_doesStand_19 (by decide) ?_
    exact wp_zret dX11_doesStand_20 rfl (by decide) (by obtain rfl := sji h; exact ⟨rfl, rfl, rfl, rfl⟩)
  · have h := ite_f hc2 h
    refine wp_iconst (v := 1) dX11_doesStand_15 (by decide) ?_
    refine wp_goto (tgt := 20) dX11_doesStand_16 (by decide) ?_
    exact wp_zret dX11_doesStand_20 rfl (by decide) (by obtain rfl := sji h; exact ⟨rfl, rfl, rfl, rfl⟩)
def mX11_standing_4 (k1 : Int32) (I : gI) : Nat → Int32 → Int32 → Option (Int32)
  | 0, _, _ => none
  | n + 1, v2, v3 => if (I 310 15) ≤ v3 then (some v2) else (Option.bind (mX11_doesStand k1 v3 I) (fun r2 => if r2 = 0 then (mX11_standing_4 k1 I n (v2 ||| 0) (v3 + 1)) else (mX11_standing_4 k1 I n (v2 ||| ((1 : Int32) <<< (v3 &&& 31))) (v3 + 1))))
def mX11_standing (N : Nat) (a2 : Int32) (I : gI) : Option (Int32) := Option.bind (mX11_standing_4 a2 I N 0 0) (fun y5 => some y5)
set_option maxHeartbeats 4000000 in
set_option maxRecDepth 100000 in
theorem wX11_standing_4 (d : Nat) (hd : 1 ≤ d) {S : gS} {J : gJ} (hS : Sh S)  (k1 : Int32) (I : gI) {Q : gO → gS → gI → gJ → Prop} :
    ∀ (n : Nat) (v2 : Int32) (v3 : Int32) (res : Int32), mX11_standing_4 k1 I n v2 v3 = some res → (∀ (o2 : Int32), res = o2 → Wp RX11 cX11_standing 4 (some .int) [] hF d 0 0 37 [(2, .int o2)] [] S I J Q) → Wp RX11 cX11_standing 4 (some .int) [] hF d 0 0 4 [(0, .ref 310), (1, .int k1), (2, .int v2), (3, .int v3)] [] S I J Q := by
  intro n
  induction n with
  | zero => intro v2 v3 res h; exact nso h
  | succ n ih =>
    intro v2 v3 res h kx
    rw [mX11_standing_4] at h
    refine wp_iload_n dX11_standing_4 rfl rfl ?_
    refine wp_aload_n dX11_standing_5 rfl rfl ?_
    refine wp_getI dX11_standing_6 flX11_202 rfl (sk310 hS) (sn310 hS) ?_
    refine wp_icmp_ge (tgt := 37) dX11_standing_9 (by decide) (fun hc1 => ?_) (fun hc1 => ?_)
    · have h := ite_t hc1 h
      exact wp_pick (ks := [2]) rfl (kx _ (sji h).symm)
    · have h := ite_f hc1 h
      refine wp_iload_n dX11_standing_12 rfl rfl ?_
      refine wp_aload_n dX11_standing_13 rfl rfl ?_
      refine wp_iload_n dX11_standing_14 rfl rfl ?_
      refine wp_iload_n dX11_standing_15 rfl rfl ?_
      obtain ⟨r2, hF3, h⟩ := obi h
      refine wp_callVi (ci := 11) (As := [.int k1, .int v3]) dX11_standing_16 lbX11_doesStand mlX11_219 imX11_doesStand seX11_doesStand vc11 (ct_X11_doesStand 0 (Nat.le_refl _) hS  hF3) rfl rfl (Nat.le_trans (by decide) hd) (sk310 hS) (sn310 hS) (Nat.le_of_ble_eq_true rfl) (fun _ => ?_)
      refine wp_if_eq (tgt := 28) dX11_standing_19 (by decide) (fun hc4 => ?_) (fun hc4 => ?_)
      · have h := ite_t hc4 h
        refine wp_iconst (v := 0) dX11_standing_28 (by decide) ?_
        refine wp_ior dX11_standing_29 ?_
        refine wp_istore_n (ls' := [(2, .int (v2 ||| 0)), (0, .ref 310), (1, .int k1), (3, .int v3)]) dX11_standing_30 rfl (Nat.le_of_ble_eq_true rfl) rfl ?_
        refine wp_iinc (v := 1) (ls' := [(3, .int (v3 + 1)), (2, .int (v2 ||| 0)), (0, .ref 310), (1, .int k1)]) dX11_standing_31 rfl (by decide) (Nat.le_of_ble_eq_true rfl) rfl ?_
        refine wp_goto (tgt := 4) dX11_standing_34 (by decide) ?_
        exact wp_pick (ks := [2, 3, 1, 0]) rfl (ih _ _ _ h kx)
      · have h := ite_f hc4 h
        refine wp_iconst (v := 1) dX11_standing_22 (by decide) ?_
        refine wp_iload_n dX11_standing_23 rfl rfl ?_
        refine wp_ishl dX11_standing_24 ?_
        refine wp_goto (tgt := 29) dX11_standing_25 (by decide) ?_
        refine wp_ior dX11_standing_29 ?_
        refine wp_istore_n (ls' := [(2, .int (v2 ||| ((1 : Int32) <<< (v3 &&& 31)))), (0, .ref 310), (1, .int k1), (3, .int v3)]) dX11_standing_30 rfl (Nat.le_of_ble_eq_true rfl) rfl ?_
        refine wp_iinc (v := 1) (ls' := [(3, .int (v3 + 1)), (2, .int (v2 ||| ((1 : Int32) <<< (v3 &&& 31)))), (0, .ref 310), (1, .int k1)]) dX11_standing_31 rfl (by decide) (Nat.le_of_ble_eq_true rfl) rfl ?_
        refine wp_goto (tgt := 4) dX11_standing_34 (by decide) ?_
        exact wp_pick (ks := [2, 3, 1, 0]) rfl (ih _ _ _ h kx)
set_option maxHeartbeats 4000000 in
set_option maxRecDepth 100000 in
theorem ct_X11_standing (N : Nat) (d : Nat) (hd : 1 ≤ d) {S : gS} {J : gJ} (hS : Sh S)  {a2 : Int32} {I : gI} {r : Int32} (h : mX11_standing N a2 I = some r) : Ct yX11_standing (wsY yX11_standing cX11_standing 4 (some .int)) d 0 0 [.ref 310, .int a2] S I J (qE (.inl (some (.int r))) S I J) := by
  refine Ct.of hF (fun _ _ _ _ _ => trivial) (by decide +kernel) (Nat.le_of_ble_eq_true rfl) ⟨Or.inl (sn310 hS), trivial, trivial⟩ ?_
  show Wp RX11 cX11_standing 4 (some .int) [] hF d 0 0 0 [(0, .ref 310), (1, .int a2)] [] S I J _
  unfold mX11_standing at h
  refine wp_iconst (v := 0) dX11_standing_0 (by decide) ?_
  refine wp_istore_n (ls' := [(2, .int 0), (0, .ref 310), (1, .int a2)]) dX11_standing_1 rfl (Nat.le_of_ble_eq_true rfl) rfl ?_
  refine wp_iconst (v := 0) dX11_standing_2 (by decide) ?_
  refine wp_istore_n (ls' := [(3, .int 0), (2, .int 0), (0, .ref 310), (1, .int a2)]) dX11_standing_3 rfl (Nat.le_of_ble_eq_true rfl) rfl ?_
  obtain ⟨y5, hL96, h⟩ := obi h
  refine wp_pick (ks := [2, 3, 1, 0]) rfl (wX11_standing_4 d hd hS  a2 I N 0 0 _ hL96 (fun _ e7 => ?_))
  cases e7
  refine wp_iload_n dX11_standing_37 rfl rfl ?_
  exact wp_iret dX11_standing_38 rfl (by obtain rfl := sji h; exact ⟨rfl, rfl, rfl, rfl⟩)
def mX11_wayBits_5 (k1 : Int32) (k2 : Int32) (I : gI) : Nat → Int32 → Int32 → Option (Int32)
  | 0, _, _ => none
  | n + 1, v3, v4 => ck ((k1 + 10) + k2) 164 (if (I 317 ((k1 + 10) + k2).toNatClampNeg) ≤ v4 then (some v3) else (ck (((k1 + 19) + (7 * k2)) + v4) 164 (nm ((1 : Int32) <<< ((I 317 (((k1 + 19) + (7 * k2)) + v4).toNatClampNeg) &&& 31)) (fun x4 => mX11_wayBits_5 k1 k2 I n (v3 ||| x4) (v4 + 1)))))
def mX11_wayBits (N : Nat) (a2 : Int32) (a3 : Int32) (I : gI) : Option (Int32) := Option.bind (mX11_wayBits_5 a2 a3 I N 0 0) (fun y6 => some y6)
set_option maxHeartbeats 4000000 in
set_option maxRecDepth 100000 in
theorem wX11_wayBits_5 (d : Nat) (hd : 0 ≤ d) {S : gS} {J : gJ} (hS : Sh S)  (k1 : Int32) (k2 : Int32) (I : gI) {Q : gO → gS → gI → gJ → Prop} :
    ∀ (n : Nat) (v3 : Int32) (v4 : Int32) (res : Int32), mX11_wayBits_5 k1 k2 I n v3 v4 = some res → (∀ (o3 : Int32), res = o3 → Wp RX11 cX11_wayBits 5 (some .int) [] hF d 0 0 49 [(3, .int o3)] [] S I J Q) → Wp RX11 cX11_wayBits 5 (some .int) [] hF d 0 0 5 [(0, .ref 310), (1, .int k1), (2, .int k2), (3, .int v3), (4, .int v4)] [] S I J Q := by
  intro n
  induction n with
  | zero => intro v3 v4 res h; exact nso h
  | succ n ih =>
    intro v3 v4 res h kx
    rw [mX11_wayBits_5] at h
    refine wp_iload dX11_wayBits_5 rfl ?_
    refine wp_aload_n dX11_wayBits_7 rfl rfl ?_
    refine wp_getR dX11_wayBits_8 flX11_35 rfl (sk310 hS) (sn310 hS) (sr310_23 hS) ?_
    refine wp_iload_n dX11_wayBits_11 rfl rfl ?_
    refine wp_bipush (v := 10) dX11_wayBits_12 (by decide) ?_
    refine wp_iadd dX11_wayBits_14 ?_
    refine wp_iload_n dX11_wayBits_15 rfl rfl ?_
    refine wp_iadd dX11_wayBits_16 ?_
    obtain ⟨hb1, h⟩ := ck_inv h
    refine wp_iald dX11_wayBits_17 (sk317 hS) (sn317 hS) hb1 ?_
    refine wp_icmp_ge (tgt := 49) dX11_wayBits_18 (by decide) (fun hc2 => ?_) (fun hc2 => ?_)
    · have h := ite_t hc2 h
      exact wp_pick (ks := [3]) rfl (kx _ (sji h).symm)
    · have h := ite_f hc2 h
      refine wp_iload_n dX11_wayBits_21 rfl rfl ?_
      refine wp_iconst (v := 1) dX11_wayBits_22 (by decide) ?_
      refine wp_aload_n dX11_wayBits_23 rfl rfl ?_
      refine wp_getR dX11_wayBits_24 flX11_35 rfl (sk310 hS) (sn310 hS) (sr310_23 hS) ?_
      refine wp_iload_n dX11_wayBits_27 rfl rfl ?_
      refine wp_bipush (v := 19) dX11_wayBits_28 (by decide) ?_
      refine wp_iadd dX11_wayBits_30 ?_
      refine wp_bipush (v := 7) dX11_wayBits_31 (by decide) ?_
      refine wp_iload_n dX11_wayBits_33 rfl rfl ?_
      refine wp_imul dX11_wayBits_34 ?_
      refine wp_iadd dX11_wayBits_35 ?_
      refine wp_iload dX11_wayBits_36 rfl ?_
      refine wp_iadd dX11_wayBits_38 ?_
      obtain ⟨hb3, h⟩ := ck_inv h
      refine wp_iald dX11_wayBits_39 (sk317 hS) (sn317 hS) hb3 ?_
      refine wp_ishl dX11_wayBits_40 ?_
      obtain ⟨x4, hx5, h⟩ := nm_inv h
      refine wp_topi hx5 ?_
      refine wp_ior dX11_wayBits_41 ?_
      refine wp_istore_n (ls' := [(3, .int (v3 ||| x4)), (0, .ref 310), (1, .int k1), (2, .int k2), (4, .int v4)]) dX11_wayBits_42 rfl (Nat.le_of_ble_eq_true rfl) rfl ?_
      refine wp_iinc (v := 1) (ls' := [(4, .int (v4 + 1)), (3, .int (v3 ||| x4)), (0, .ref 310), (1, .int k1), (2, .int k2)]) dX11_wayBits_43 rfl (by decide) (Nat.le_of_ble_eq_true rfl) rfl ?_
      refine wp_goto (tgt := 5) dX11_wayBits_46 (by decide) ?_
      exact wp_pick (ks := [2, 3, 4, 1, 0]) rfl (ih _ _ _ h kx)
set_option maxHeartbeats 4000000 in
set_option maxRecDepth 100000 in
theorem ct_X11_wayBits (N : Nat) (d : Nat) (hd : 0 ≤ d) {S : gS} {J : gJ} (hS : Sh S)  {a2 : Int32} {a3 : Int32} {I : gI} {r : Int32} (h : mX11_wayBits N a2 a3 I = some r) : Ct yX11_wayBits (wsY yX11_wayBits cX11_wayBits 5 (some .int)) d 0 0 [.ref 310, .int a2, .int a3] S I J (qE (.inl (some (.int r))) S I J) := by
  refine Ct.of hF (fun _ _ _ _ _ => trivial) (by decide +kernel) (Nat.le_of_ble_eq_true rfl) ⟨Or.inl (sn310 hS), trivial, trivial, trivial⟩ ?_
  show Wp RX11 cX11_wayBits 5 (some .int) [] hF d 0 0 0 [(0, .ref 310), (1, .int a2), (2, .int a3)] [] S I J _
  unfold mX11_wayBits at h
  refine wp_iconst (v := 0) dX11_wayBits_0 (by decide) ?_
  refine wp_istore_n (ls' := [(3, .int 0), (0, .ref 310), (1, .int a2), (2, .int a3)]) dX11_wayBits_1 rfl (Nat.le_of_ble_eq_true rfl) rfl ?_
  refine wp_iconst (v := 0) dX11_wayBits_2 (by decide) ?_
  refine wp_istore (ls' := [(4, .int 0), (3, .int 0), (0, .ref 310), (1, .int a2), (2, .int a3)]) dX11_wayBits_3 (Nat.le_of_ble_eq_true rfl) rfl ?_
  obtain ⟨y6, hL97, h⟩ := obi h
  refine wp_pick (ks := [2, 3, 4, 1, 0]) rfl (wX11_wayBits_5 d hd hS  a2 a3 I N 0 0 _ hL97 (fun _ e8 => ?_))
  cases e8
  refine wp_iload_n dX11_wayBits_49 rfl rfl ?_
  exact wp_iret dX11_wayBits_50 rfl (by obtain rfl := sji h; exact ⟨rfl, rfl, rfl, rfl⟩)
def mX11_metric_4 (k1 : Int32) (I : gI) : Nat → Int32 → Int32 → Option (Int32)
  | 0, _, _ => none
  | n + 1, v2, v3 => if (I 310 14) ≤ v3 then (some v2) else (ck ((5 * v3) + 2) 80 (nm (((k1 >>> (v3 &&& 31)) &&& 1) * (I 313 ((5 * v3) + 2).toNatClampNeg)) (fun x3 => mX11_metric_4 k1 I n (v2 + x3) (v3 + 1))))
def mX11_metric (N : Nat) (a2 : Int32) (I : gI) : Option (Int32) := Option.bind (mX11_metric_4 a2 I N 0 0) (fun y5 => some y5)
set_option maxHeartbeats 4000000 in
set_option maxRecDepth 100000 in
theorem wX11_metric_4 (d : Nat) (hd : 0 ≤ d) {S : gS} {J : gJ} (hS : Sh S)  (k1 : Int32) (I : gI) {Q : gO → gS → gI → gJ → Prop} :
    ∀ (n : Nat) (v2 : Int32) (v3 : Int32) (res : Int32), mX11_metric_4 k1 I n v2 v3 = some res → (∀ (o2 : Int32), res = o2 → Wp RX11 cX11_metric 4 (some .int) [] hF d 0 0 37 [(2, .int o2)] [] S I J Q) → Wp RX11 cX11_metric 4 (some .int) [] hF d 0 0 4 [(0, .ref 310), (1, .int k1), (2, .int v2), (3, .int v3)] [] S I J Q := by
  intro n
  induction n with
  | zero => intro v2 v3 res h; exact nso h
  | succ n ih =>
    intro v2 v3 res h kx
    rw [mX11_metric_4] at h
    refine wp_iload_n dX11_metric_4 rfl rfl ?_
    refine wp_aload_n dX11_metric_5 rfl rfl ?_
    refine wp_getI dX11_metric_6 flX11_199 rfl (sk310 hS) (sn310 hS) ?_
    refine wp_icmp_ge (tgt := 37) dX11_metric_9 (by decide) (fun hc1 => ?_) (fun hc1 => ?_)
    · have h := ite_t hc1 h
      exact wp_pick (ks := [2]) rfl (kx _ (sji h).symm)
    · have h := ite_f hc1 h
      refine wp_iload_n dX11_metric_12 rfl rfl ?_
      refine wp_iload_n dX11_metric_13 rfl rfl ?_
      refine wp_iload_n dX11_metric_14 rfl rfl ?_
      refine wp_ishr dX11_metric_15 ?_
      refine wp_iconst (v := 1) dX11_metric_16 (by decide) ?_
      refine wp_iand dX11_metric_17 ?_
      refine wp_aload_n dX11_metric_18 rfl rfl ?_
      refine wp_getR dX11_metric_19 flX11_23 rfl (sk310 hS) (sn310 hS) (sr310_19 hS) ?_
      refine wp_iconst (v := 5) dX11_metric_22 (by decide) ?_
      refine wp_iload_n dX11_metric_23 rfl rfl ?_
      refine wp_imul dX11_metric_24 ?_
      refine wp_iconst (v := 2) dX11_metric_25 (by decide) ?_
      refine wp_iadd dX11_metric_26 ?_
      obtain ⟨hb2, h⟩ := ck_inv h
      refine wp_iald dX11_metric_27 (sk313 hS) (sn313 hS) hb2 ?_
      refine wp_imul dX11_metric_28 ?_
      obtain ⟨x3, hx4, h⟩ := nm_inv h
      refine wp_topi hx4 ?_
      refine wp_iadd dX11_metric_29 ?_
      refine wp_istore_n (ls' := [(2, .int (v2 + x3)), (0, .ref 310), (1, .int k1), (3, .int v3)]) dX11_metric_30 rfl (Nat.le_of_ble_eq_true rfl) rfl ?_
      refine wp_iinc (v := 1) (ls' := [(3, .int (v3 + 1)), (2, .int (v2 + x3)), (0, .ref 310), (1, .int k1)]) dX11_metric_31 rfl (by decide) (Nat.le_of_ble_eq_true rfl) rfl ?_
      refine wp_goto (tgt := 4) dX11_metric_34 (by decide) ?_
      exact wp_pick (ks := [2, 3, 1, 0]) rfl (ih _ _ _ h kx)
set_option maxHeartbeats 4000000 in
set_option maxRecDepth 100000 in
theorem ct_X11_metric (N : Nat) (d : Nat) (hd : 0 ≤ d) {S : gS} {J : gJ} (hS : Sh S)  {a2 : Int32} {I : gI} {r : Int32} (h : mX11_metric N a2 I = some r) : Ct yX11_metric (wsY yX11_metric cX11_metric 4 (some .int)) d 0 0 [.ref 310, .int a2] S I J (qE (.inl (some (.int r))) S I J) := by
  refine Ct.of hF (fun _ _ _ _ _ => trivial) (by decide +kernel) (Nat.le_of_ble_eq_true rfl) ⟨Or.inl (sn310 hS), trivial, trivial⟩ ?_
  show Wp RX11 cX11_metric 4 (some .int) [] hF d 0 0 0 [(0, .ref 310), (1, .int a2)] [] S I J _
  unfold mX11_metric at h
  refine wp_iconst (v := 0) dX11_metric_0 (by decide) ?_
  refine wp_istore_n (ls' := [(2, .int 0), (0, .ref 310), (1, .int a2)]) dX11_metric_1 rfl (Nat.le_of_ble_eq_true rfl) rfl ?_
  refine wp_iconst (v := 0) dX11_metric_2 (by decide) ?_
  refine wp_istore_n (ls' := [(3, .int 0), (2, .int 0), (0, .ref 310), (1, .int a2)]) dX11_metric_3 rfl (Nat.le_of_ble_eq_true rfl) rfl ?_
  obtain ⟨y5, hL96, h⟩ := obi h
  refine wp_pick (ks := [2, 3, 1, 0]) rfl (wX11_metric_4 d hd hS  a2 I N 0 0 _ hL96 (fun _ e7 => ?_))
  cases e7
  refine wp_iload_n dX11_metric_37 rfl rfl ?_
  exact wp_iret dX11_metric_38 rfl (by obtain rfl := sji h; exact ⟨rfl, rfl, rfl, rfl⟩)
def mX11_setupOf (a2 : Int32) (I : gI) : Option (Int32) := ck ((7 * a2) + 3) 63 (some (I 315 ((7 * a2) + 3).toNatClampNeg))
set_option maxHeartbeats 4000000 in
set_option maxRecDepth 100000 in
theorem ct_X11_setupOf (d : Nat) (hd : 0 ≤ d) {S : gS} {J : gJ} (hS : Sh S)  {a2 : Int32} {I : gI} {r : Int32} (h : mX11_setupOf a2 I = some r) : Ct yX11_setupOf (wsY yX11_setupOf cX11_setupOf 2 (some .int)) d 0 0 [.ref 310, .int a2] S I J (qE (.inl (some (.int r))) S I J) := by
  refine Ct.of hF (fun _ _ _ _ _ => trivial) (by decide +kernel) (Nat.le_of_ble_eq_true rfl) ⟨Or.inl (sn310 hS), trivial, trivial⟩ ?_
  show Wp RX11 cX11_setupOf 2 (some .int) [] hF d 0 0 0 [(0, .ref 310), (1, .int a2)] [] S I J _
  unfold mX11_setupOf at h
  refine wp_aload_n dX11_setupOf_0 rfl rfl ?_
  refine wp_getR dX11_setupOf_1 flX11_29 rfl (sk310 hS) (sn310 hS) (sr310_21 hS) ?_
  refine wp_bipush (v := 7) dX11_setupOf_4 (by decide) ?_
  refine wp_iload_n dX11_setupOf_6 rfl rfl ?_
  refine wp_imul dX11_setupOf_7 ?_
  refine wp_iconst (v := 3) dX11_setupOf_8 (by decide) ?_
  refine wp_iadd dX11_setupOf_9 ?_
  obtain ⟨hb1, h⟩ := ck_inv h
  refine wp_iald dX11_setupOf_10 (sk315 hS) (sn315 hS) hb1 ?_
  exact wp_iret dX11_setupOf_11 rfl (by obtain rfl := sji h; exact ⟨rfl, rfl, rfl, rfl⟩)
def mX11_holdOf (a2 : Int32) (I : gI) : Option (Int32) := ck ((7 * a2) + 4) 63 (some (I 315 ((7 * a2) + 4).toNatClampNeg))
set_option maxHeartbeats 4000000 in
set_option maxRecDepth 100000 in
theorem ct_X11_holdOf (d : Nat) (hd : 0 ≤ d) {S : gS} {J : gJ} (hS : Sh S)  {a2 : Int32} {I : gI} {r : Int32} (h : mX11_holdOf a2 I = some r) : Ct yX11_holdOf (wsY yX11_holdOf cX11_holdOf 2 (some .int)) d 0 0 [.ref 310, .int a2] S I J (qE (.inl (some (.int r))) S I J) := by
  refine Ct.of hF (fun _ _ _ _ _ => trivial) (by decide +kernel) (Nat.le_of_ble_eq_true rfl) ⟨Or.inl (sn310 hS), trivial, trivial⟩ ?_
  show Wp RX11 cX11_holdOf 2 (some .int) [] hF d 0 0 0 [(0, .ref 310), (1, .int a2)] [] S I J _
  unfold mX11_holdOf at h
  refine wp_aload_n dX11_holdOf_0 rfl rfl ?_
  refine wp_getR dX11_holdOf_1 flX11_29 rfl (sk310 hS) (sn310 hS) (sr310_21 hS) ?_
  refine wp_bipush (v := 7) dX11_holdOf_4 (by decide) ?_
  refine wp_iload_n dX11_holdOf_6 rfl rfl ?_
  refine wp_imul dX11_holdOf_7 ?_
  refine wp_iconst (v := 4) dX11_holdOf_8 (by decide) ?_
  refine wp_iadd dX11_holdOf_9 ?_
  obtain ⟨hb1, h⟩ := ck_inv h
  refine wp_iald dX11_holdOf_10 (sk315 hS) (sn315 hS) hb1 ?_
  exact wp_iret dX11_holdOf_11 rfl (by obtain rfl := sji h; exact ⟨rfl, rfl, rfl, rfl⟩)
def mX11_poolAt_15 (N : Nat) (k1 : Int32) (k2 : Int32) (k3 : Int32) (I : gI) : Nat → Int32 → Int32 → Option (Int32)
  | 0, _, _ => none
  | n + 1, v4, v5 => if (I 310 15) ≤ v5 then (some v4) else (Option.bind (mX11_holdOf v5 I) (fun r3 => if k3 < r3 then (mX11_poolAt_15 N k1 k2 k3 I n v4 (v5 + 1)) else (Option.bind (mX11_wayBits N k1 v5 I) (fun r6 => if ((r6 >>> (k2 &&& 31)) &&& 1) = 1 then (ck ((k1 + 1) + v5) 164 (mX11_poolAt_15 N k1 k2 k3 I n (v4 - (I 317 ((k1 + 1) + v5).toNatClampNeg)) (v5 + 1))) else (mX11_poolAt_15 N k1 k2 k3 I n v4 (v5 + 1))))))
def mX11_poolAt (N : Nat) (a2 : Int32) (a3 : Int32) (a4 : Int32) (I : gI) : Option (Int32) := ck ((5 * a3) + 3) 80 (Option.bind (mX11_poolAt_15 N a2 a3 a4 I N (I 313 ((5 * a3) + 3).toNatClampNeg) 0) (fun y10 => some y10))
set_option maxHeartbeats 4000000 in
set_option maxRecDepth 100000 in
theorem wX11_poolAt_15 (N : Nat) (d : Nat) (hd : 1 ≤ d) {S : gS} {J : gJ} (hS : Sh S)  (k1 : Int32) (k2 : Int32) (k3 : Int32) (I : gI) {Q : gO → gS → gI → gJ → Prop} :
    ∀ (n : Nat) (v4 : Int32) (v5 : Int32) (res : Int32), mX11_poolAt_15 N k1 k2 k3 I n v4 v5 = some res → (∀ (o4 : Int32), res = o4 → Wp RX11 cX11_poolAt 6 (some .int) [] hF d 0 0 71 [(4, .int o4)] [] S I J Q) → Wp RX11 cX11_poolAt 6 (some .int) [] hF d 0 0 15 [(0, .ref 310), (1, .int k1), (2, .int k2), (3, .int k3), (4, .int v4), (5, .int v5)] [] S I J Q := by
  intro n
  induction n with
  | zero => intro v4 v5 res h; exact nso h
  | succ n ih =>
    intro v4 v5 res h kx
    rw [mX11_poolAt_15] at h
    refine wp_iload dX11_poolAt_15 rfl ?_
    refine wp_aload_n dX11_poolAt_17 rfl rfl ?_
    refine wp_getI dX11_poolAt_18 flX11_202 rfl (sk310 hS) (sn310 hS) ?_
    refine wp_icmp_ge (tgt := 71) dX11_poolAt_21 (by decide) (fun hc2 => ?_) (fun hc2 => ?_)
    · have h := ite_t hc2 h
      exact wp_pick (ks := [4]) rfl (kx _ (sji h).symm)
    · have h := ite_f hc2 h
      refine wp_aload_n dX11_poolAt_24 rfl rfl ?_
      refine wp_iload dX11_poolAt_25 rfl ?_
      obtain ⟨r3, hF4, h⟩ := obi h
      refine wp_callVi (ci := 11) (As := [.int v5]) dX11_poolAt_27 lbX11_holdOf mlX11_223 imX11_holdOf seX11_holdOf vc11 (ct_X11_holdOf 0 (Nat.le_refl _) hS  hF4) rfl rfl (Nat.le_trans (by decide) hd) (sk310 hS) (sn310 hS) (Nat.le_of_ble_eq_true rfl) (fun _ => ?_)
      refine wp_iload_n dX11_poolAt_30 rfl rfl ?_
      refine wp_icmp_gt (tgt := 65) dX11_poolAt_31 (by decide) (fun hc5 => ?_) (fun hc5 => ?_)
      · have h := ite_t hc5 h
        refine wp_iinc (v := 1) (ls' := [(5, .int (v5 + 1)), (0, .ref 310), (1, .int k1), (2, .int k2), (3, .int k3), (4, .int v4)]) dX11_poolAt_65 rfl (by decide) (Nat.le_of_ble_eq_true rfl) rfl ?_
        refine wp_goto (tgt := 15) dX11_poolAt_68 (by decide) ?_
        exact wp_pick (ks := [1, 2, 3, 4, 5, 0]) rfl (ih _ _ _ h kx)
      · have h := ite_f hc5 h
        refine wp_aload_n dX11_poolAt_34 rfl rfl ?_
        refine wp_iload_n dX11_poolAt_35 rfl rfl ?_
        refine wp_iload dX11_poolAt_36 rfl ?_
        obtain ⟨r6, hF7, h⟩ := obi h
        refine wp_callVi (ci := 11) (As := [.int k1, .int v5]) dX11_poolAt_38 lbX11_wayBits mlX11_226 imX11_wayBits seX11_wayBits vc11 (ct_X11_wayBits N 0 (Nat.le_refl _) hS  hF7) rfl rfl (Nat.le_trans (by decide) hd) (sk310 hS) (sn310 hS) (Nat.le_of_ble_eq_true rfl) (fun _ => ?_)
        refine wp_iload_n dX11_poolAt_41 rfl rfl ?_
        refine wp_ishr dX11_poolAt_42 ?_
        refine wp_iconst (v := 1) dX11_poolAt_43 (by decide) ?_
        refine wp_iand dX11_poolAt_44 ?_
        refine wp_iconst (v := 1) dX11_poolAt_45 (by decide) ?_
        refine wp_icmp_ne (tgt := 65) dX11_poolAt_46 (by decide) (fun hc8 => ?_) (fun hc8 => ?_)
        · have h := ite_f hc8 h
          refine wp_iinc (v := 1) (ls' := [(5, .int (v5 + 1)), (0, .ref 310), (1, .int k1), (2, .int k2), (3, .int k3), (4, .int v4)]) dX11_poolAt_65 rfl (by decide) (Nat.le_of_ble_eq_true rfl) rfl ?_
          refine wp_goto (tgt := 15) dX11_poolAt_68 (by decide) ?_
          exact wp_pick (ks := [1, 2, 3, 4, 5, 0]) rfl (ih _ _ _ h kx)
        · have h := ite_t hc8 h
          refine wp_iload dX11_poolAt_49 rfl ?_
          refine wp_aload_n dX11_poolAt_51 rfl rfl ?_
          refine wp_getR dX11_poolAt_52 flX11_35 rfl (sk310 hS) (sn310 hS) (sr310_23 hS) ?_
          refine wp_iload_n dX11_poolAt_55 rfl rfl ?_
          refine wp_iconst (v := 1) dX11_poolAt_56 (by decide) ?_
          refine wp_iadd dX11_poolAt_57 ?_
          refine wp_iload dX11_poolAt_58 rfl ?_
          refine wp_iadd dX11_poolAt_60 ?_
          obtain ⟨hb9, h⟩ := ck_inv h
          refine wp_iald dX11_poolAt_61 (sk317 hS) (sn317 hS) hb9 ?_
          refine wp_isub dX11_poolAt_62 ?_
          refine wp_istore (ls' := [(4, .int (v4 - (I 317 ((k1 + 1) + v5).toNatClampNeg))), (0, .ref 310), (1, .int k1), (2, .int k2), (3, .int k3), (5, .int v5)]) dX11_poolAt_63 (Nat.le_of_ble_eq_true rfl) rfl ?_
          refine wp_iinc (v := 1) (ls' := [(5, .int (v5 + 1)), (4, .int (v4 - (I 317 ((k1 + 1) + v5).toNatClampNeg))), (0, .ref 310), (1, .int k1), (2, .int k2), (3, .int k3)]) dX11_poolAt_65 rfl (by decide) (Nat.le_of_ble_eq_true rfl) rfl ?_
          refine wp_goto (tgt := 15) dX11_poolAt_68 (by decide) ?_
          exact wp_pick (ks := [2, 3, 4, 5, 1, 0]) rfl (ih _ _ _ h kx)
set_option maxHeartbeats 4000000 in
set_option maxRecDepth 100000 in
theorem ct_X11_poolAt (N : Nat) (d : Nat) (hd : 1 ≤ d) {S : gS} {J : gJ} (hS : Sh S)  {a2 : Int32} {a3 : Int32} {a4 : Int32} {I : gI} {r : Int32} (h : mX11_poolAt N a2 a3 a4 I = some r) : Ct yX11_poolAt (wsY yX11_poolAt cX11_poolAt 6 (some .int)) d 0 0 [.ref 310, .int a2, .int a3, .int a4] S I J (qE (.inl (some (.int r))) S I J) := by
  refine Ct.of hF (fun _ _ _ _ _ => trivial) (by decide +kernel) (Nat.le_of_ble_eq_true rfl) ⟨Or.inl (sn310 hS), trivial, trivial, trivial, trivial⟩ ?_
  show Wp RX11 cX11_poolAt 6 (some .int) [] hF d 0 0 0 [(0, .ref 310), (1, .int a2), (2, .int a3), (3, .int a4)] [] S I J _
  unfold mX11_poolAt at h
  refine wp_aload_n dX11_poolAt_0 rfl rfl ?_
  refine wp_getR dX11_poolAt_1 flX11_23 rfl (sk310 hS) (sn310 hS) (sr310_19 hS) ?_
  refine wp_iconst (v := 5) dX11_poolAt_4 (by decide) ?_
  refine wp_iload_n dX11_poolAt_5 rfl rfl ?_
  refine wp_imul dX11_poolAt_6 ?_
  refine wp_iconst (v := 3) dX11_poolAt_7 (by decide) ?_
  refine wp_iadd dX11_poolAt_8 ?_
  obtain ⟨hb1, h⟩ := ck_inv h
  refine wp_iald dX11_poolAt_9 (sk313 hS) (sn313 hS) hb1 ?_
  refine wp_istore (ls' := [(4, .int (I 313 ((5 * a3) + 3).toNatClampNeg)), (0, .ref 310), (1, .int a2), (2, .int a3), (3, .int a4)]) dX11_poolAt_10 (Nat.le_of_ble_eq_true rfl) rfl ?_
  refine wp_iconst (v := 0) dX11_poolAt_12 (by decide) ?_
  refine wp_istore (ls' := [(5, .int 0), (4, .int (I 313 ((5 * a3) + 3).toNatClampNeg)), (0, .ref 310), (1, .int a2), (2, .int a3), (3, .int a4)]) dX11_poolAt_13 (Nat.le_of_ble_eq_true rfl) rfl ?_
  obtain ⟨y10, hL911, h⟩ := obi h
  refine wp_pick (ks := [2, 3, 4, 5, 1, 0]) rfl (wX11_poolAt_15 N d hd hS  a2 a3 a4 I N (I 313 ((5 * a3) + 3).toNatClampNeg) 0 _ hL911 (fun _ e12 => ?_))
  cases e12
  refine wp_iload dX11_poolAt_71 rfl ?_
  exact wp_iret dX11_poolAt_73 rfl (by obtain rfl := sji h; exact ⟨rfl, rfl, rfl, rfl⟩)
def mX11_takenAt (N : Nat) (a2 : Int32) (a3 : Int32) (I : gI) : Option (Int32) := ck ((5 * a3) + 3) 80 (Option.bind (mX11_poolAt N a2 a3 7 I) (fun r2 => some ((I 313 ((5 * a3) + 3).toNatClampNeg) - r2)))
set_option maxHeartbeats 4000000 in
set_option maxRecDepth 100000 in
theorem ct_X11_takenAt (N : Nat) (d : Nat) (hd : 2 ≤ d) {S : gS} {J : gJ} (hS : Sh S)  {a2 : Int32} {a3 : Int32} {I : gI} {r : Int32} (h : mX11_takenAt N a2 a3 I = some r) : Ct yX11_takenAt (wsY yX11_takenAt cX11_takenAt 3 (some .int)) d 0 0 [.ref 310, .int a2, .int a3] S I J (qE (.inl (some (.int r))) S I J) := by
  refine Ct.of hF (fun _ _ _ _ _ => trivial) (by decide +kernel) (Nat.le_of_ble_eq_true rfl) ⟨Or.inl (sn310 hS), trivial, trivial, trivial⟩ ?_
  show Wp RX11 cX11_takenAt 3 (some .int) [] hF d 0 0 0 [(0, .ref 310), (1, .int a2), (2, .int a3)] [] S I J _
  unfold mX11_takenAt at h
  refine wp_aload_n dX11_takenAt_0 rfl rfl ?_
  refine wp_getR dX11_takenAt_1 flX11_23 rfl (sk310 hS) (sn310 hS) (sr310_19 hS) ?_
  refine wp_iconst (v := 5) dX11_takenAt_4 (by decide) ?_
  refine wp_iload_n dX11_takenAt_5 rfl rfl ?_
  refine wp_imul dX11_takenAt_6 ?_
  refine wp_iconst (v := 3) dX11_takenAt_7 (by decide) ?_
  refine wp_iadd dX11_takenAt_8 ?_
  obtain ⟨hb1, h⟩ := ck_inv h
  refine wp_iald dX11_takenAt_9 (sk313 hS) (sn313 hS) hb1 ?_
  refine wp_aload_n dX11_takenAt_10 rfl rfl ?_
  refine wp_iload_n dX11_takenAt_11 rfl rfl ?_
  refine wp_iload_n dX11_takenAt_12 rfl rfl ?_
  refine wp_bipush (v := 7) dX11_takenAt_13 (by decide) ?_
  obtain ⟨r2, hF3, h⟩ := obi h
  refine wp_callVi (ci := 11) (As := [.int a2, .int a3, .int 7]) dX11_takenAt_15 lbX11_poolAt mlX11_229 imX11_poolAt seX11_poolAt vc11 (ct_X11_poolAt N 1 (Nat.le_refl _) hS  hF3) rfl rfl (Nat.le_trans (by decide) hd) (sk310 hS) (sn310 hS) (Nat.le_of_ble_eq_true rfl) (fun _ => ?_)
  refine wp_isub dX11_takenAt_18 ?_
  exact wp_iret dX11_takenAt_19 rfl (by obtain rfl := sji h; exact ⟨rfl, rfl, rfl, rfl⟩)
def mX11_laysPools_20 (N : Nat) (k1 : Int32) (k2 : Int32) (k3 : Int32) (k4 : Int32) (k5 : Int32) (k6 : Int32) : Nat → Int32 → gI → Option (gI)
  | 0, _, _ => none
  | n + 1, v7, I => if (I 310 14) ≤ v7 then (some I) else (Option.bind (if ((k6 >>> (v7 &&& 31)) &&& 1) = 1 then (ck ((k1 + 1) + k2) 164 (some (I 317 ((k1 + 1) + k2).toNatClampNeg))) else (some 0) : Option (Int32)) (fun x6 => Option.bind (mX11_poolAt N k1 v7 7 I) (fun r9 => ck v7 16 (Option.bind (mX11_isUp k1 v7 (upd2 I 320 v7.toNatClampNeg (r9 + x6))) (fun r12 => if r12 = 0 then (nm (upd2 (upd2 I 320 v7.toNatClampNeg (r9 + x6)) 319 v7.toNatClampNeg (vp_nar .boolean 0)) (fun I15 => mX11_laysPools_20 N k1 k2 k3 k4 k5 k6 n (v7 + 1) I15)) else (ck ((5 * v7) + 4) 80 (nm ((upd2 I 320 v7.toNatClampNeg (r9 + x6)) 313 ((5 * v7) + 4).toNatClampNeg) (fun x18 => if (x18 &&& k5) = 0 then (if k4 = (-1) then (nm (upd2 (upd2 I 320 v7.toNatClampNeg (r9 + x6)) 319 v7.toNatClampNeg (vp_nar .boolean 1)) (fun I24 => mX11_laysPools_20 N k1 k2 k3 k4 k5 k6 n (v7 + 1) I24)) else (Option.bind (mX11_poolAt N k1 v7 k4 (upd2 I 320 v7.toNatClampNeg (r9 + x6))) (fun r26 => if (r26 + x6) < k3 then (nm (upd2 (upd2 I 320 v7.toNatClampNeg (r9 + x6)) 319 v7.toNatClampNeg (vp_nar .boolean 0)) (fun I29 => mX11_laysPools_20 N k1 k2 k3 k4 k5 k6 n (v7 + 1) I29)) else (nm (upd2 (upd2 I 320 v7.toNatClampNeg (r9 + x6)) 319 v7.toNatClampNeg (vp_nar .boolean 1)) (fun I31 => mX11_laysPools_20 N k1 k2 k3 k4 k5 k6 n (v7 + 1) I31))))) else (nm (upd2 (upd2 I 320 v7.toNatClampNeg (r9 + x6)) 319 v7.toNatClampNeg (vp_nar .boolean 0)) (fun I21 => mX11_laysPools_20 N k1 k2 k3 k4 k5 k6 n (v7 + 1) I21))))))))))
def mX11_laysPools (N : Nat) (a2 : Int32) (a3 : Int32) (a4 : Int32) (a5 : Int32) (a6 : Int32) (I : gI) : Option (gI) := Option.bind (if a3 = (-1) then (some 0) else (Option.bind (mX11_wayBits N a2 a3 I) (fun r3 => some r3)) : Option (Int32)) (fun x1 => Option.bind (mX11_laysPools_20 N a2 a3 a4 a5 a6 x1 N 0 I) (fun I34 => some I34))
set_option maxHeartbeats 4000000 in
set_option maxRecDepth 100000 in
theorem wX11_laysPools_20 (N : Nat) (d : Nat) (hd : 2 ≤ d) {S : gS} {J : gJ} (hS : Sh S)  (k1 : Int32) (k2 : Int32) (k3 : Int32) (k4 : Int32) (k5 : Int32) (k6 : Int32) {Q : gO → gS → gI → gJ → Prop} :
    ∀ (n : Nat) (v7 : Int32) (I : gI) (res : gI), mX11_laysPools_20 N k1 k2 k3 k4 k5 k6 n v7 I = some res → (∀ (O : gI), res = O → Wp RX11 cX11_laysPools 9 none [] hF d 0 0 142 [] [] S O J Q) → Wp RX11 cX11_laysPools 9 none [] hF d 0 0 20 [(0, .ref 310), (1, .int k1), (2, .int k2), (3, .int k3), (4, .int k4), (5, .int k5), (6, .int k6), (7, .int v7)] [] S I J Q := by
  intro n
  induction n with
  | zero => intro v7 I res h; exact nso h
  | succ n ih =>
    intro v7 I res h kx
    rw [mX11_laysPools_20] at h
    refine wp_iload dX11_laysPools_20 rfl ?_
    refine wp_aload_n dX11_laysPools_22 rfl rfl ?_
    refine wp_getI dX11_laysPools_23 flX11_199 rfl (sk310 hS) (sn310 hS) ?_
    refine wp_icmp_ge (tgt := 142) dX11_laysPools_26 (by decide) (fun hc5 => ?_) (fun hc5 => ?_)
    · have h := ite_t hc5 h
      exact wp_pick (ks := []) rfl (kx _ (sji h).symm)
    · have h := ite_f hc5 h
      refine wp_iload dX11_laysPools_29 rfl ?_
      refine wp_iload dX11_laysPools_31 rfl ?_
      refine wp_ishr dX11_laysPools_33 ?_
      refine wp_iconst (v := 1) dX11_laysPools_34 (by decide) ?_
      refine wp_iand dX11_laysPools_35 ?_
      refine wp_iconst (v := 1) dX11_laysPools_36 (by decide) ?_
      obtain ⟨x6, hh33, h⟩ := obi h
      have hJ : Wp RX11 cX11_laysPools 9 none [] hF d 0 0 54 [(0, .ref 310), (1, .int k1), (2, .int k2), (3, .int k3), (4, .int k4), (5, .int k5), (6, .int k6), (7, .int v7)] [.int x6] S I J Q := by
        refine wp_istore (ls' := [(8, .int x6), (0, .ref 310), (1, .int k1), (2, .int k2), (3, .int k3), (4, .int k4), (5, .int k5), (6, .int k6), (7, .int v7)]) dX11_laysPools_54 (Nat.le_of_ble_eq_true rfl) rfl ?_
        refine wp_aload_n dX11_laysPools_56 rfl rfl ?_
        refine wp_getR dX11_laysPools_57 flX11_45 rfl (sk310 hS) (sn310 hS) (sr310_27 hS) ?_
        refine wp_iload dX11_laysPools_60 rfl ?_
        refine wp_aload_n dX11_laysPools_62 rfl rfl ?_
        refine wp_iload_n dX11_laysPools_63 rfl rfl ?_
        refine wp_iload dX11_laysPools_64 rfl ?_
        refine wp_bipush (v := 7) dX11_laysPools_66 (by decide) ?_
        obtain ⟨r9, hF10, h⟩ := obi h
        refine wp_callVi (ci := 11) (As := [.int k1, .int v7, .int 7]) dX11_laysPools_68 lbX11_poolAt mlX11_229 imX11_poolAt seX11_poolAt vc11 (ct_X11_poolAt N 1 (Nat.le_refl _) hS  hF10) rfl rfl (Nat.le_trans (by decide) hd) (sk310 hS) (sn310 hS) (Nat.le_of_ble_eq_true rfl) (fun _ => ?_)
        refine wp_iload dX11_laysPools_71 rfl ?_
        refine wp_iadd dX11_laysPools_73 ?_
        obtain ⟨hb11, h⟩ := ck_inv h
        refine wp_iast dX11_laysPools_74 (sk320 hS) (sn320 hS) hb11 ?_
        refine wp_aload_n dX11_laysPools_75 rfl rfl ?_
        refine wp_getR dX11_laysPools_76 flX11_41 rfl (sk310 hS) (sn310 hS) (sr310_26 hS) ?_
        refine wp_iload dX11_laysPools_79 rfl ?_
        refine wp_aload_n dX11_laysPools_81 rfl rfl ?_
        refine wp_iload_n dX11_laysPools_82 rfl rfl ?_
        refine wp_iload dX11_laysPools_83 rfl ?_
        obtain ⟨r12, hF13, h⟩ := obi h
        refine wp_callVi (ci := 11) (As := [.int k1, .int v7]) dX11_laysPools_85 lbX11_isUp mlX11_233 imX11_isUp seX11_isUp vc11 (ct_X11_isUp 0 (Nat.le_refl _) hS  hF13) rfl rfl (Nat.le_trans (by decide) hd) (sk310 hS) (sn310 hS) (Nat.le_of_ble_eq_true rfl) (fun _ => ?_)
        refine wp_if_eq (tgt := 134) dX11_laysPools_88 (by decide) (fun hc14 => ?_) (fun hc14 => ?_)
        · have h := ite_t hc14 h
          refine wp_iconst (v := 0) dX11_laysPools_134 (by decide) ?_
          refine wp_zast dX11_laysPools_135 (sk319 hS) (sn319 hS) hb11 ?_
          obtain ⟨I15, hx16, h⟩ := nm_inv h
          refine wp_nmI hx16 ?_
          refine wp_iinc (v := 1) (ls' := [(7, .int (v7 + 1)), (8, .int x6), (0, .ref 310), (1, .int k1), (2, .int k2), (3, .int k3), (4, .int k4), (5, .int k5), (6, .int k6)]) dX11_laysPools_136 rfl (by decide) (Nat.le_of_ble_eq_true rfl) rfl ?_
          refine wp_goto (tgt := 20) dX11_laysPools_139 (by decide) ?_
          exact wp_pick (ks := [2, 3, 4, 5, 6, 7, 8, 0]) rfl (ih _ _ _ h kx)
        · have h := ite_f hc14 h
          refine wp_aload_n dX11_laysPools_91 rfl rfl ?_
          refine wp_getR dX11_laysPools_92 flX11_23 rfl (sk310 hS) (sn310 hS) (sr310_19 hS) ?_
          refine wp_iconst (v := 5) dX11_laysPools_95 (by decide) ?_
          refine wp_iload dX11_laysPools_96 rfl ?_
          refine wp_imul dX11_laysPools_98 ?_
          refine wp_iconst (v := 4) dX11_laysPools_99 (by decide) ?_
          refine wp_iadd dX11_laysPools_100 ?_
          obtain ⟨hb17, h⟩ := ck_inv h
          refine wp_iald dX11_laysPools_101 (sk313 hS) (sn313 hS) hb17 ?_
          obtain ⟨x18, hx19, h⟩ := nm_inv h
          refine wp_topi hx19 ?_
          refine wp_iload dX11_laysPools_102 rfl ?_
          refine wp_iand dX11_laysPools_104 ?_
          refine wp_if_ne (tgt := 134) dX11_laysPools_105 (by decide) (fun hc20 => ?_) (fun hc20 => ?_)
          · have h := ite_f hc20 h
            refine wp_iconst (v := 0) dX11_laysPools_134 (by decide) ?_
            refine wp_zast dX11_laysPools_135 (sk319 hS) (sn319 hS) hb11 ?_
            obtain ⟨I21, hx22, h⟩ := nm_inv h
            refine wp_nmI hx22 ?_
            refine wp_iinc (v := 1) (ls' := [(7, .int (v7 + 1)), (8, .int x6), (0, .ref 310), (1, .int k1), (2, .int k2), (3, .int k3), (4, .int k4), (5, .int k5), (6, .int k6)]) dX11_laysPools_136 rfl (by decide) (Nat.le_of_ble_eq_true rfl) rfl ?_
            refine wp_goto (tgt := 20) dX11_laysPools_139 (by decide) ?_
            exact wp_pick (ks := [2, 3, 4, 5, 6, 7, 8, 0]) rfl (ih _ _ _ h kx)
          · have h := ite_t hc20 h
            refine wp_iload dX11_laysPools_108 rfl ?_
            refine wp_iconst (v := (-1)) dX11_laysPools_110 (by decide) ?_
            refine wp_icmp_eq (tgt := 130) dX11_laysPools_111 (by decide) (fun hc23 => ?_) (fun hc23 => ?_)
            · have h := ite_t hc23 h
              refine wp_iconst (v := 1) dX11_laysPools_130 (by decide) ?_
              refine wp_goto (tgt := 135) dX11_laysPools_131 (by decide) ?_
              refine wp_zast dX11_laysPools_135 (sk319 hS) (sn319 hS) hb11 ?_
              obtain ⟨I24, hx25, h⟩ := nm_inv h
              refine wp_nmI hx25 ?_
              refine wp_iinc (v := 1) (ls' := [(7, .int (v7 + 1)), (8, .int x6), (0, .ref 310), (1, .int k1), (2, .int k2), (3, .int k3), (4, .int k4), (5, .int k5), (6, .int k6)]) dX11_laysPools_136 rfl (by decide) (Nat.le_of_ble_eq_true rfl) rfl ?_
              refine wp_goto (tgt := 20) dX11_laysPools_139 (by decide) ?_
              exact wp_pick (ks := [2, 3, 4, 5, 6, 7, 8, 0]) rfl (ih _ _ _ h kx)
            · have h := ite_f hc23 h
              refine wp_aload_n dX11_laysPools_114 rfl rfl ?_
              refine wp_iload_n dX11_laysPools_115 rfl rfl ?_
              refine wp_iload dX11_laysPools_116 rfl ?_
              refine wp_iload dX11_laysPools_118 rfl ?_
              obtain ⟨r26, hF27, h⟩ := obi h
              refine wp_callVi (ci := 11) (As := [.int k1, .int v7, .int k4]) dX11_laysPools_120 lbX11_poolAt mlX11_229 imX11_poolAt seX11_poolAt vc11 (ct_X11_poolAt N 1 (Nat.le_refl _) hS  hF27) rfl rfl (Nat.le_trans (by decide) hd) (sk310 hS) (sn310 hS) (Nat.le_of_ble_eq_true rfl) (fun _ => ?_)
              refine wp_iload dX11_laysPools_123 rfl ?_
              refine wp_iadd dX11_laysPools_125 ?_
              refine wp_iload_n dX11_laysPools_126 rfl rfl ?_
              refine wp_icmp_lt (tgt := 134) dX11_laysPools_127 (by decide) (fun hc28 => ?_) (fun hc28 => ?_)
              · have h := ite_t hc28 h
                refine wp_iconst (v := 0) dX11_laysPools_134 (by decide) ?_
                refine wp_zast dX11_laysPools_135 (sk319 hS) (sn319 hS) hb11 ?_
                obtain ⟨I29, hx30, h⟩ := nm_inv h
                refine wp_nmI hx30 ?_
                refine wp_iinc (v := 1) (ls' := [(7, .int (v7 + 1)), (8, .int x6), (0, .ref 310), (1, .int k1), (2, .int k2), (3, .int k3), (4, .int k4), (5, .int k5), (6, .int k6)]) dX11_laysPools_136 rfl (by decide) (Nat.le_of_ble_eq_true rfl) rfl ?_
                refine wp_goto (tgt := 20) dX11_laysPools_139 (by decide) ?_
                exact wp_pick (ks := [2, 3, 4, 5, 6, 7, 8, 0]) rfl (ih _ _ _ h kx)
              · have h := ite_f hc28 h
                refine wp_iconst (v := 1) dX11_laysPools_130 (by decide) ?_
                refine wp_goto (tgt := 135) dX11_laysPools_131 (by decide) ?_
                refine wp_zast dX11_laysPools_135 (sk319 hS) (sn319 hS) hb11 ?_
                obtain ⟨I31, hx32, h⟩ := nm_inv h
                refine wp_nmI hx32 ?_
                refine wp_iinc (v := 1) (ls' := [(7, .int (v7 + 1)), (8, .int x6), (0, .ref 310), (1, .int k1), (2, .int k2), (3, .int k3), (4, .int k4), (5, .int k5), (6, .int k6)]) dX11_laysPools_136 rfl (by decide) (Nat.le_of_ble_eq_true rfl) rfl ?_
                refine wp_goto (tgt := 20) dX11_laysPools_139 (by decide) ?_
                exact wp_pick (ks := [2, 3, 4, 5, 6, 7, 8, 0]) rfl (ih _ _ _ h kx)
      clear h
      have h := hh33
      clear hh33
      refine wp_icmp_ne (tgt := 53) dX11_laysPools_37 (by decide) (fun hc7 => ?_) (fun hc7 => ?_)
      · have h := ite_f hc7 h
        refine wp_iconst (v := 0) dX11_laysPools_53 (by decide) ?_
        cases h
        exact wp_pick (ks := [0, 1, 2, 3, 4, 5, 6, 7]) rfl hJ
      · have h := ite_t hc7 h
        refine wp_aload_n dX11_laysPools_40 rfl rfl ?_
        refine wp_getR dX11_laysPools_41 flX11_35 rfl (sk310 hS) (sn310 hS) (sr310_23 hS) ?_
        refine wp_iload_n dX11_laysPools_44 rfl rfl ?_
        refine wp_iconst (v := 1) dX11_laysPools_45 (by decide) ?_
        refine wp_iadd dX11_laysPools_46 ?_
        refine wp_iload_n dX11_laysPools_47 rfl rfl ?_
        refine wp_iadd dX11_laysPools_48 ?_
        obtain ⟨hb8, h⟩ := ck_inv h
        refine wp_iald dX11_laysPools_49 (sk317 hS) (sn317 hS) hb8 ?_
        refine wp_goto (tgt := 54) dX11_laysPools_50 (by decide) ?_
        cases h
        exact wp_pick (ks := [0, 1, 2, 3, 4, 5, 6, 7]) rfl hJ
set_option maxHeartbeats 4000000 in
set_option maxRecDepth 100000 in
theorem ct_X11_laysPools (N : Nat) (d : Nat) (hd : 2 ≤ d) {S : gS} {J : gJ} (hS : Sh S)  {a2 : Int32} {a3 : Int32} {a4 : Int32} {a5 : Int32} {a6 : Int32} {I : gI} {r : gI} (h : mX11_laysPools N a2 a3 a4 a5 a6 I = some r) : Ct yX11_laysPools (wsY yX11_laysPools cX11_laysPools 9 none) d 0 0 [.ref 310, .int a2, .int a3, .int a4, .int a5, .int a6] S I J (qE (.inl none) S r J) := by
  refine Ct.of hF (fun _ _ _ _ _ => trivial) (by decide +kernel) (Nat.le_of_ble_eq_true rfl) ⟨Or.inl (sn310 hS), trivial, trivial, trivial, trivial, trivial, trivial⟩ ?_
  show Wp RX11 cX11_laysPools 9 none [] hF d 0 0 0 [(0, .ref 310), (1, .int a2), (2, .int a3), (3, .int a4), (4, .int a5), (5, .int a6)] [] S I J _
  unfold mX11_laysPools at h
  refine wp_iload_n dX11_laysPools_0 rfl rfl ?_
  refine wp_iconst (v := (-1)) dX11_laysPools_1 (by decide) ?_
  obtain ⟨x1, hh37, h⟩ := obi h
  have hJ : Wp RX11 cX11_laysPools 9 none [] hF d 0 0 15 [(0, .ref 310), (1, .int a2), (2, .int a3), (3, .int a4), (4, .int a5), (5, .int a6)] [.int x1] S I J (qE (.inl none) S r J) := by
    refine wp_istore (ls' := [(6, .int x1), (0, .ref 310), (1, .int a2), (2, .int a3), (3, .int a4), (4, .int a5), (5, .int a6)]) dX11_laysPools_15 (Nat.le_of_ble_eq_true rfl) rfl ?_
    refine wp_iconst (v := 0) dX11_laysPools_17 (by decide) ?_
    refine wp_istore (ls' := [(7, .int 0), (6, .int x1), (0, .ref 310), (1, .int a2), (2, .int a3), (3, .int a4), (4, .int a5), (5, .int a6)]) dX11_laysPools_18 (Nat.le_of_ble_eq_true rfl) rfl ?_
    obtain ⟨I34, hL935, h⟩ := obi h
    refine wp_pick (ks := [2, 3, 4, 5, 6, 7, 1, 0]) rfl (wX11_laysPools_20 N d hd hS  a2 a3 a4 a5 a6 x1 N 0 I _ hL935 (fun _ e36 => ?_))
    cases e36
    exact wp_vret dX11_laysPools_142 rfl (by obtain rfl := sji h; exact ⟨rfl, rfl, rfl, rfl⟩)
  clear h
  have h := hh37
  clear hh37
  refine wp_icmp_ne (tgt := 9) dX11_laysPools_2 (by decide) (fun hc2 => ?_) (fun hc2 => ?_)
  · have h := ite_f hc2 h
    refine wp_aload_n dX11_laysPools_9 rfl rfl ?_
    refine wp_iload_n dX11_laysPools_10 rfl rfl ?_
    refine wp_iload_n dX11_laysPools_11 rfl rfl ?_
    obtain ⟨r3, hF4, h⟩ := obi h
    refine wp_callVi (ci := 11) (As := [.int a2, .int a3]) dX11_laysPools_12 lbX11_wayBits mlX11_226 imX11_wayBits seX11_wayBits vc11 (ct_X11_wayBits N 0 (Nat.le_refl _) hS  hF4) rfl rfl (Nat.le_trans (by decide) hd) (sk310 hS) (sn310 hS) (Nat.le_of_ble_eq_true rfl) (fun _ => ?_)
    cases h
    exact wp_pick (ks := [0, 1, 2, 3, 4, 5]) rfl hJ
  · have h := ite_t hc2 h
    refine wp_iconst (v := 0) dX11_laysPools_5 (by decide) ?_
    refine wp_goto (tgt := 15) dX11_laysPools_6 (by decide) ?_
    cases h
    exact wp_pick (ks := [0, 1, 2, 3, 4, 5]) rfl hJ
def mX11_laysBest_8 (k1 : Int32) (I : gI) : Nat → Int32 → Int32 → Int32 → Option (Int32 × Int32)
  | 0, _, _, _ => none
  | n + 1, v2, v3, v4 => if k1 ≤ v4 then (some (v2, v3)) else (ck v4 8 (nm (v2 ||| ((1 : Int32) <<< ((I 321 v4.toNatClampNeg) &&& 31))) (fun x3 => ck (I 321 v4.toNatClampNeg) 16 (Option.bind (mX11_lesser v3 (I 320 (I 321 v4.toNatClampNeg).toNatClampNeg) I) (fun r6 => mX11_laysBest_8 k1 I n x3 r6 (v4 + 1))))))
def mX11_laysBest_194 (k1 : Int32) : Nat → Int32 → gI → Option (gI)
  | 0, _, _ => none
  | n + 1, v6, I => if k1 ≤ v6 then (some I) else (ck v6 8 (ck v6 7 (mX11_laysBest_194 k1 n (v6 + 1) (upd2 I 322 v6.toNatClampNeg (I 321 v6.toNatClampNeg)))))
def mX11_laysBest (N : Nat) (a2 : Int32) (I : gI) : Option (gI) := Option.bind (mX11_laysBest_8 a2 I N 0 999999 0) (fun (y8, y9) => Option.bind (mX11_metric N y8 I) (fun r10 => Option.bind (if 2048 ≤ (I 310 35) then (some I) else (ck (I 310 35) 2048 (ck ((upd2 I 323 (I 310 35).toNatClampNeg y8) 310 35) 2048 (nm (upd2 (upd2 I 323 (I 310 35).toNatClampNeg y8) 324 ((upd2 I 323 (I 310 35).toNatClampNeg y8) 310 35).toNatClampNeg r10) (fun I16 => some (upd2 I16 310 35 ((I16 310 35) + 1)))))) : Option (gI)) (fun I12 => Option.bind (if (I12 310 32) = (-1) then (some 1) else (if (I12 310 33) ≤ r10 then (some 0) else (some 1)) : Option (Int32)) (fun x18 => Option.bind (if (I12 310 32) = (-1) then (some x18) else (if r10 = (I12 310 33) then (if a2 < (I12 310 32) then (some 1) else (if a2 = (I12 310 32) then (if y9 ≤ (I12 310 34) then (some 0) else (some 1)) else (some 0))) else (some x18)) : Option (Int32)) (fun x21 => if x21 = 0 then (some I12) else (Option.bind (mX11_laysBest_194 a2 N 0 (upd2 (upd2 (upd2 I12 310 32 a2) 310 33 r10) 310 34 y9)) (fun I31 => some I31)))))))
set_option maxHeartbeats 4000000 in
set_option maxRecDepth 100000 in
theorem wX11_laysBest_8 (d : Nat) (hd : 1 ≤ d) {S : gS} {J : gJ} (hS : Sh S)  (k1 : Int32) (I : gI) {Q : gO → gS → gI → gJ → Prop} :
    ∀ (n : Nat) (v2 : Int32) (v3 : Int32) (v4 : Int32) (res : Int32 × Int32), mX11_laysBest_8 k1 I n v2 v3 v4 = some res → (∀ (o2 : Int32) (o3 : Int32), res = (o2, o3) → Wp RX11 cX11_laysBest 7 none [] hF d 0 0 49 [(0, .ref 310), (1, .int k1), (2, .int o2), (3, .int o3)] [] S I J Q) → Wp RX11 cX11_laysBest 7 none [] hF d 0 0 8 [(0, .ref 310), (1, .int k1), (2, .int v2), (3, .int v3), (4, .int v4)] [] S I J Q := by
  intro n
  induction n with
  | zero => intro v2 v3 v4 res h; exact nso h
  | succ n ih =>
    intro v2 v3 v4 res h kx
    rw [mX11_laysBest_8] at h
    refine wp_iload dX11_laysBest_8 rfl ?_
    refine wp_iload_n dX11_laysBest_10 rfl rfl ?_
    refine wp_icmp_ge (tgt := 49) dX11_laysBest_11 (by decide) (fun hc1 => ?_) (fun hc1 => ?_)
    · have h := ite_t hc1 h
      exact wp_pick (ks := [0, 1, 2, 3]) rfl (kx _ _ (sji h).symm)
    · have h := ite_f hc1 h
      refine wp_iload_n dX11_laysBest_14 rfl rfl ?_
      refine wp_iconst (v := 1) dX11_laysBest_15 (by decide) ?_
      refine wp_aload_n dX11_laysBest_16 rfl rfl ?_
      refine wp_getR dX11_laysBest_17 flX11_48 rfl (sk310 hS) (sn310 hS) (sr310_28 hS) ?_
      refine wp_iload dX11_laysBest_20 rfl ?_
      obtain ⟨hb2, h⟩ := ck_inv h
      refine wp_iald dX11_laysBest_22 (sk321 hS) (sn321 hS) hb2 ?_
      refine wp_ishl dX11_laysBest_23 ?_
      refine wp_ior dX11_laysBest_24 ?_
      obtain ⟨x3, hx4, h⟩ := nm_inv h
      refine wp_topi hx4 ?_
      refine wp_istore_n (ls' := [(2, .int x3), (0, .ref 310), (1, .int k1), (3, .int v3), (4, .int v4)]) dX11_laysBest_25 rfl (Nat.le_of_ble_eq_true rfl) rfl ?_
      refine wp_iload_n dX11_laysBest_26 rfl rfl ?_
      refine wp_aload_n dX11_laysBest_27 rfl rfl ?_
      refine wp_getR dX11_laysBest_28 flX11_45 rfl (sk310 hS) (sn310 hS) (sr310_27 hS) ?_
      refine wp_aload_n dX11_laysBest_31 rfl rfl ?_
      refine wp_getR dX11_laysBest_32 flX11_48 rfl (sk310 hS) (sn310 hS) (sr310_28 hS) ?_
      refine wp_iload dX11_laysBest_35 rfl ?_
      refine wp_iald dX11_laysBest_37 (sk321 hS) (sn321 hS) hb2 ?_
      obtain ⟨hb5, h⟩ := ck_inv h
      refine wp_iald dX11_laysBest_38 (sk320 hS) (sn320 hS) hb5 ?_
      obtain ⟨r6, hF7, h⟩ := obi h
      refine wp_callSi (As := [.int v3, .int (I 320 (I 321 v4.toNatClampNeg).toNatClampNeg)]) dX11_laysBest_39 lbX11_lesser mlX11_237 smX11_lesser (ct_X11_lesser 0 (Nat.le_refl _) hS  hF7) rfl rfl (Nat.le_trans (by decide) hd) (Nat.le_of_ble_eq_true rfl) (fun _ => ?_)
      refine wp_istore_n (ls' := [(3, .int r6), (2, .int x3), (0, .ref 310), (1, .int k1), (4, .int v4)]) dX11_laysBest_42 rfl (Nat.le_of_ble_eq_true rfl) rfl ?_
      refine wp_iinc (v := 1) (ls' := [(4, .int (v4 + 1)), (3, .int r6), (2, .int x3), (0, .ref 310), (1, .int k1)]) dX11_laysBest_43 rfl (by decide) (Nat.le_of_ble_eq_true rfl) rfl ?_
      refine wp_goto (tgt := 8) dX11_laysBest_46 (by decide) ?_
      exact wp_pick (ks := [3, 4, 2, 1, 0]) rfl (ih _ _ _ _ h kx)
set_option maxHeartbeats 4000000 in
set_option maxRecDepth 100000 in
theorem wX11_laysBest_194 (d : Nat) (hd : 1 ≤ d) {S : gS} {J : gJ} (hS : Sh S)  (k1 : Int32) {Q : gO → gS → gI → gJ → Prop} :
    ∀ (n : Nat) (v6 : Int32) (I : gI) (res : gI), mX11_laysBest_194 k1 n v6 I = some res → (∀ (O : gI), res = O → Wp RX11 cX11_laysBest 7 none [] hF d 0 0 220 [] [] S O J Q) → Wp RX11 cX11_laysBest 7 none [] hF d 0 0 194 [(0, .ref 310), (1, .int k1), (6, .int v6)] [] S I J Q := by
  intro n
  induction n with
  | zero => intro v6 I res h; exact nso h
  | succ n ih =>
    intro v6 I res h kx
    rw [mX11_laysBest_194] at h
    refine wp_iload dX11_laysBest_194 rfl ?_
    refine wp_iload_n dX11_laysBest_196 rfl rfl ?_
    refine wp_icmp_ge (tgt := 220) dX11_laysBest_197 (by decide) (fun hc28 => ?_) (fun hc28 => ?_)
    · have h := ite_t hc28 h
      exact wp_pick (ks := []) rfl (kx _ (sji h).symm)
    · have h := ite_f hc28 h
      refine wp_aload_n dX11_laysBest_200 rfl rfl ?_
      refine wp_getR dX11_laysBest_201 flX11_51 rfl (sk310 hS) (sn310 hS) (sr310_29 hS) ?_
      refine wp_iload dX11_laysBest_204 rfl ?_
      refine wp_aload_n dX11_laysBest_206 rfl rfl ?_
      refine wp_getR dX11_laysBest_207 flX11_48 rfl (sk310 hS) (sn310 hS) (sr310_28 hS) ?_
      refine wp_iload dX11_laysBest_210 rfl ?_
      obtain ⟨hb29, h⟩ := ck_inv h
      refine wp_iald dX11_laysBest_212 (sk321 hS) (sn321 hS) hb29 ?_
      obtain ⟨hb30, h⟩ := ck_inv h
      refine wp_iast dX11_laysBest_213 (sk322 hS) (sn322 hS) hb30 ?_
      refine wp_iinc (v := 1) (ls' := [(6, .int (v6 + 1)), (0, .ref 310), (1, .int k1)]) dX11_laysBest_214 rfl (by decide) (Nat.le_of_ble_eq_true rfl) rfl ?_
      refine wp_goto (tgt := 194) dX11_laysBest_217 (by decide) ?_
      exact wp_pick (ks := [1, 2, 0]) rfl (ih _ _ _ h kx)
set_option maxHeartbeats 4000000 in
set_option maxRecDepth 100000 in
theorem ct_X11_laysBest (N : Nat) (d : Nat) (hd : 1 ≤ d) {S : gS} {J : gJ} (hS : Sh S)  {a2 : Int32} {I : gI} {r : gI} (h : mX11_laysBest N a2 I = some r) : Ct yX11_laysBest (wsY yX11_laysBest cX11_laysBest 7 none) d 0 0 [.ref 310, .int a2] S I J (qE (.inl none) S r J) := by
  refine Ct.of hF (fun _ _ _ _ _ => trivial) (by decide +kernel) (Nat.le_of_ble_eq_true rfl) ⟨Or.inl (sn310 hS), trivial, trivial⟩ ?_
  show Wp RX11 cX11_laysBest 7 none [] hF d 0 0 0 [(0, .ref 310), (1, .int a2)] [] S I J _
  unfold mX11_laysBest at h
  refine wp_iconst (v := 0) dX11_laysBest_0 (by decide) ?_
  refine wp_istore_n (ls' := [(2, .int 0), (0, .ref 310), (1, .int a2)]) dX11_laysBest_1 rfl (Nat.le_of_ble_eq_true rfl) rfl ?_
  refine wp_ldc dX11_laysBest_2 koX11_236 ?_
  refine wp_istore_n (ls' := [(3, .int 999999), (2, .int 0), (0, .ref 310), (1, .int a2)]) dX11_laysBest_4 rfl (Nat.le_of_ble_eq_true rfl) rfl ?_
  refine wp_iconst (v := 0) dX11_laysBest_5 (by decide) ?_
  refine wp_istore (ls' := [(4, .int 0), (3, .int 999999), (2, .int 0), (0, .ref 310), (1, .int a2)]) dX11_laysBest_6 (Nat.le_of_ble_eq_true rfl) rfl ?_
  obtain ⟨⟨y8, y9⟩, hL937, h⟩ := obi h
  refine wp_pick (ks := [3, 4, 2, 1, 0]) rfl (wX11_laysBest_8 d hd hS  a2 I N 0 999999 0 _ hL937 (fun _ _ e38 => ?_))
  cases e38
  refine wp_aload_n dX11_laysBest_49 rfl rfl ?_
  refine wp_iload_n dX11_laysBest_50 rfl rfl ?_
  obtain ⟨r10, hF11, h⟩ := obi h
  refine wp_callVi (ci := 11) (As := [.int y8]) dX11_laysBest_51 lbX11_metric mlX11_240 imX11_metric seX11_metric vc11 (ct_X11_metric N 0 (Nat.le_refl _) hS  hF11) rfl rfl (Nat.le_trans (by decide) hd) (sk310 hS) (sn310 hS) (Nat.le_of_ble_eq_true rfl) (fun _ => ?_)
  refine wp_istore (ls' := [(4, .int r10), (0, .ref 310), (1, .int a2), (2, .int y8), (3, .int y9)]) dX11_laysBest_54 (Nat.le_of_ble_eq_true rfl) rfl ?_
  refine wp_aload_n dX11_laysBest_56 rfl rfl ?_
  refine wp_getI dX11_laysBest_57 flX11_243 rfl (sk310 hS) (sn310 hS) ?_
  refine wp_sipush (v := 2048) dX11_laysBest_60 (by decide) ?_
  obtain ⟨I12, hh36, h⟩ := obi h
  have hJ : Wp RX11 cX11_laysBest 7 none [] hF d 0 0 97 [(0, .ref 310), (1, .int a2), (3, .int y9), (4, .int r10)] [] S I12 J (qE (.inl none) S r J) := by
    refine wp_aload_n dX11_laysBest_97 rfl rfl ?_
    refine wp_getI dX11_laysBest_98 flX11_246 rfl (sk310 hS) (sn310 hS) ?_
    refine wp_iconst (v := (-1)) dX11_laysBest_101 (by decide) ?_
    obtain ⟨x18, hh35, h⟩ := obi h
    have hJ : Wp RX11 cX11_laysBest 7 none [] hF d 0 0 119 [(0, .ref 310), (1, .int a2), (3, .int y9), (4, .int r10)] [.int x18] S I12 J (qE (.inl none) S r J) := by
      refine wp_istore (ls' := [(5, .int x18), (0, .ref 310), (1, .int a2), (3, .int y9), (4, .int r10)]) dX11_laysBest_119 (Nat.le_of_ble_eq_true rfl) rfl ?_
      refine wp_aload_n dX11_laysBest_121 rfl rfl ?_
      refine wp_getI dX11_laysBest_122 flX11_246 rfl (sk310 hS) (sn310 hS) ?_
      refine wp_iconst (v := (-1)) dX11_laysBest_125 (by decide) ?_
      obtain ⟨x21, hh34, h⟩ := obi h
      have hJ : Wp RX11 cX11_laysBest 7 none [] hF d 0 0 169 [(0, .ref 310), (1, .int a2), (3, .int y9), (4, .int r10), (5, .int x21)] [] S I12 J (qE (.inl none) S r J) := by
        refine wp_iload dX11_laysBest_169 rfl ?_
        refine wp_if_ne (tgt := 175) dX11_laysBest_171 (by decide) (fun hc27 => ?_) (fun hc27 => ?_)
        · have h := ite_f hc27 h
          refine wp_aload_n dX11_laysBest_175 rfl rfl ?_
          refine wp_iload_n dX11_laysBest_176 rfl rfl ?_
          refine wp_putI dX11_laysBest_177 (Or.inl fpX11_246) rfl ⟨rfl, rfl⟩ (sk310 hS) (sn310 hS) ?_
          refine wp_aload_n dX11_laysBest_180 rfl rfl ?_
          refine wp_iload dX11_laysBest_181 rfl ?_
          refine wp_putI dX11_laysBest_183 (Or.inl fpX11_249) rfl ⟨rfl, rfl⟩ (sk310 hS) (sn310 hS) ?_
          refine wp_aload_n dX11_laysBest_186 rfl rfl ?_
          refine wp_iload_n dX11_laysBest_187 rfl rfl ?_
          refine wp_putI dX11_laysBest_188 (Or.inl fpX11_252) rfl ⟨rfl, rfl⟩ (sk310 hS) (sn310 hS) ?_
          refine wp_iconst (v := 0) dX11_laysBest_191 (by decide) ?_
          refine wp_istore (ls' := [(6, .int 0), (0, .ref 310), (1, .int a2), (3, .int y9), (4, .int r10), (5, .int x21)]) dX11_laysBest_192 (Nat.le_of_ble_eq_true rfl) rfl ?_
          obtain ⟨I31, hL932, h⟩ := obi h
          refine wp_pick (ks := [1, 2, 0]) rfl (wX11_laysBest_194 d hd hS  a2 N 0 (upd2 (upd2 (upd2 I12 310 32 a2) 310 33 r10) 310 34 y9) _ hL932 (fun _ e33 => ?_))
          cases e33
          exact wp_vret dX11_laysBest_220 rfl (by obtain rfl := sji h; exact ⟨rfl, rfl, rfl, rfl⟩)
        · have h := ite_t hc27 h
          exact wp_vret dX11_laysBest_174 rfl (by obtain rfl := sji h; exact ⟨rfl, rfl, rfl, rfl⟩)
      clear h
      have h := hh34
      clear hh34
      refine wp_icmp_eq (tgt := 169) dX11_laysBest_126 (by decide) (fun hc22 => ?_) (fun hc22 => ?_)
      · have h := ite_t hc22 h
        cases h
        exact wp_pick (ks := [1, 2, 3, 4, 0]) rfl hJ
      · have h := ite_f hc22 h
        refine wp_iload dX11_laysBest_129 rfl ?_
        refine wp_aload_n dX11_laysBest_131 rfl rfl ?_
        refine wp_getI dX11_laysBest_132 flX11_249 rfl (sk310 hS) (sn310 hS) ?_
        refine wp_icmp_ne (tgt := 169) dX11_laysBest_135 (by decide) (fun hc23 => ?_) (fun hc23 => ?_)
        · have h := ite_f hc23 h
          cases h
          exact wp_pick (ks := [1, 2, 3, 4, 0]) rfl hJ
        · have h := ite_t hc23 h
          refine wp_iload_n dX11_laysBest_138 rfl rfl ?_
          refine wp_aload_n dX11_laysBest_139 rfl rfl ?_
          refine wp_getI dX11_laysBest_140 flX11_246 rfl (sk310 hS) (sn310 hS) ?_
          refine wp_icmp_lt (tgt := 162) dX11_laysBest_143 (by decide) (fun hc24 => ?_) (fun hc24 => ?_)
          · have h := ite_t hc24 h
            refine wp_iconst (v := 1) dX11_laysBest_162 (by decide) ?_
            refine wp_goto (tgt := 167) dX11_laysBest_163 (by decide) ?_
            refine wp_istore (ls' := [(5, .int 1), (0, .ref 310), (1, .int a2), (3, .int y9), (4, .int r10)]) dX11_laysBest_167 (Nat.le_of_ble_eq_true rfl) rfl ?_
            cases h
            exact wp_pick (ks := [1, 2, 3, 4, 0]) rfl hJ
          · have h := ite_f hc24 h
            refine wp_iload_n dX11_laysBest_146 rfl rfl ?_
            refine wp_aload_n dX11_laysBest_147 rfl rfl ?_
            refine wp_getI dX11_laysBest_148 flX11_246 rfl (sk310 hS) (sn310 hS) ?_
            refine wp_icmp_ne (tgt := 166) dX11_laysBest_151 (by decide) (fun hc25 => ?_) (fun hc25 => ?_)
            · have h := ite_f hc25 h
              refine wp_iconst (v := 0) dX11_laysBest_166 (by decide) ?_
              refine wp_istore (ls' := [(5, .int 0), (0, .ref 310), (1, .int a2), (3, .int y9), (4, .int r10)]) dX11_laysBest_167 (Nat.le_of_ble_eq_true rfl) rfl ?_
              cases h
              exact wp_pick (ks := [1, 2, 3, 4, 0]) rfl hJ
            · have h := ite_t hc25 h
              refine wp_iload_n dX11_laysBest_154 rfl rfl ?_
              refine wp_aload_n dX11_laysBest_155 rfl rfl ?_
              refine wp_getI dX11_laysBest_156 flX11_252 rfl (sk310 hS) (sn310 hS) ?_
              refine wp_icmp_le (tgt := 166) dX11_laysBest_159 (by decide) (fun hc26 => ?_) (fun hc26 => ?_)
              · have h := ite_t hc26 h
                refine wp_iconst (v := 0) dX11_laysBest_166 (by decide) ?_
                refine wp_istore (ls' := [(5, .int 0), (0, .ref 310), (1, .int a2), (3, .int y9), (4, .int r10)]) dX11_laysBest_167 (Nat.le_of_ble_eq_true rfl) rfl ?_
                cases h
                exact wp_pick (ks := [1, 2, 3, 4, 0]) rfl hJ
              · have h := ite_f hc26 h
                refine wp_iconst (v := 1) dX11_laysBest_162 (by decide) ?_
                refine wp_goto (tgt := 167) dX11_laysBest_163 (by decide) ?_
                refine wp_istore (ls' := [(5, .int 1), (0, .ref 310), (1, .int a2), (3, .int y9), (4, .int r10)]) dX11_laysBest_167 (Nat.le_of_ble_eq_true rfl) rfl ?_
                cases h
                exact wp_pick (ks := [1, 2, 3, 4, 0]) rfl hJ
    clear h
    have h := hh35
    clear hh35
    refine wp_icmp_eq (tgt := 114) dX11_laysBest_102 (by decide) (fun hc19 => ?_) (fun hc19 => ?_)
    · have h := ite_t hc19 h
      refine wp_iconst (v := 1) dX11_laysBest_114 (by decide) ?_
      refine wp_goto (tgt := 119) dX11_laysBest_115 (by decide) ?_
      cases h
      exact wp_pick (ks := [0, 1, 2, 3]) rfl hJ
    · have h := ite_f hc19 h
      refine wp_iload dX11_laysBest_105 rfl ?_
      refine wp_aload_n dX11_laysBest_107 rfl rfl ?_
      refine wp_getI dX11_laysBest_108 flX11_249 rfl (sk310 hS) (sn310 hS) ?_
      refine wp_icmp_ge (tgt := 118) dX11_laysBest_111 (by decide) (fun hc20 => ?_) (fun hc20 => ?_)
      · have h := ite_t hc20 h
        refine wp_iconst (v := 0) dX11_laysBest_118 (by decide) ?_
        cases h
        exact wp_pick (ks := [0, 1, 2, 3]) rfl hJ
      · have h := ite_f hc20 h
        refine wp_iconst (v := 1) dX11_laysBest_114 (by decide) ?_
        refine wp_goto (tgt := 119) dX11_laysBest_115 (by decide) ?_
        cases h
        exact wp_pick (ks := [0, 1, 2, 3]) rfl hJ
  clear h
  have h := hh36
  clear hh36
  refine wp_icmp_ge (tgt := 97) dX11_laysBest_63 (by decide) (fun hc13 => ?_) (fun hc13 => ?_)
  · have h := ite_t hc13 h
    cases h
    exact wp_pick (ks := [1, 2, 4, 0]) rfl hJ
  · have h := ite_f hc13 h
    refine wp_aload_n dX11_laysBest_66 rfl rfl ?_
    refine wp_getR dX11_laysBest_67 flX11_54 rfl (sk310 hS) (sn310 hS) (sr310_30 hS) ?_
    refine wp_aload_n dX11_laysBest_70 rfl rfl ?_
    refine wp_getI dX11_laysBest_71 flX11_243 rfl (sk310 hS) (sn310 hS) ?_
    refine wp_iload_n dX11_laysBest_74 rfl rfl ?_
    obtain ⟨hb14, h⟩ := ck_inv h
    refine wp_iast dX11_laysBest_75 (sk323 hS) (sn323 hS) hb14 ?_
    refine wp_aload_n dX11_laysBest_76 rfl rfl ?_
    refine wp_getR dX11_laysBest_77 flX11_57 rfl (sk310 hS) (sn310 hS) (sr310_31 hS) ?_
    refine wp_aload_n dX11_laysBest_80 rfl rfl ?_
    refine wp_getI dX11_laysBest_81 flX11_243 rfl (sk310 hS) (sn310 hS) ?_
    refine wp_iload dX11_laysBest_84 rfl ?_
    obtain ⟨hb15, h⟩ := ck_inv h
    refine wp_iast dX11_laysBest_86 (sk324 hS) (sn324 hS) hb15 ?_
    obtain ⟨I16, hx17, h⟩ := nm_inv h
    refine wp_nmI hx17 ?_
    refine wp_aload_n dX11_laysBest_87 rfl rfl ?_
    refine wp_dup dX11_laysBest_88 rfl ?_
    refine wp_getI dX11_laysBest_89 flX11_243 rfl (sk310 hS) (sn310 hS) ?_
    refine wp_iconst (v := 1) dX11_laysBest_92 (by decide) ?_
    refine wp_iadd dX11_laysBest_93 ?_
    refine wp_putI dX11_laysBest_94 (Or.inl fpX11_243) rfl ⟨rfl, rfl⟩ (sk310 hS) (sn310 hS) ?_
    cases h
    exact wp_pick (ks := [1, 2, 4, 0]) rfl hJ
def mX11_isFound_28 (N : Nat) (k2 : Int32) (k3 : Int32) : Nat → Int32 → Int32 → Int32 → gI → Option (gI)
  | 0, _, _, _, _ => none
  | n + 1, v4, v5, v6, I => if v4 < 0 then (some I) else (ck v4 8 (nm ((upd2 I 321 v4.toNatClampNeg ((I 321 v4.toNatClampNeg) + 1)) 321 v4.toNatClampNeg) (fun x5 => nm ((upd2 I 321 v4.toNatClampNeg ((I 321 v4.toNatClampNeg) + 1)) 310 14) (fun x7 => if x5 < x7 then (ck ((5 * x5) + 1) 80 (nm ((upd2 I 321 v4.toNatClampNeg ((I 321 v4.toNatClampNeg) + 1)) 313 ((5 * x5) + 1).toNatClampNeg) (fun x11 => ck x5 16 (nm ((upd2 I 321 v4.toNatClampNeg ((I 321 v4.toNatClampNeg) + 1)) 319 x5.toNatClampNeg) (fun x14 => if x14 = 0 then (mX11_isFound_28 N k2 k3 n v4 v5 v6 (upd2 I 321 v4.toNatClampNeg ((I 321 v4.toNatClampNeg) + 1))) else (ck (5 * x5) 80 (nm ((upd2 I 321 v4.toNatClampNeg ((I 321 v4.toNatClampNeg) + 1)) 313 (5 * x5).toNatClampNeg) (fun x18 => if x18 = v6 then (if ((v5 >>> (x11 &&& 31)) &&& 1) = 1 then (mX11_isFound_28 N k2 k3 n v4 v5 v6 (upd2 I 321 v4.toNatClampNeg ((I 321 v4.toNatClampNeg) + 1))) else (if x11 = k2 then (Option.bind (mX11_laysBest N (v4 + 1) (upd2 I 321 v4.toNatClampNeg ((I 321 v4.toNatClampNeg) + 1))) (fun I27 => mX11_isFound_28 N k2 k3 n v4 v5 v6 I27)) else (if (v4 + 1) = k3 then (mX11_isFound_28 N k2 k3 n v4 v5 v6 (upd2 I 321 v4.toNatClampNeg ((I 321 v4.toNatClampNeg) + 1))) else (ck (v4 + 1) 8 (nm (upd2 (upd2 I 321 v4.toNatClampNeg ((I 321 v4.toNatClampNeg) + 1)) 321 (v4 + 1).toNatClampNeg (-1)) (fun I25 => mX11_isFound_28 N k2 k3 n (v4 + 1) (v5 ||| ((1 : Int32) <<< (x11 &&& 31))) x11 I25)))))) else (mX11_isFound_28 N k2 k3 n v4 v5 v6 (upd2 I 321 v4.toNatClampNeg ((I 321 v4.toNatClampNeg) + 1))))))))))) else (if 0 ≤ (v4 + (-1)) then (ck (v4 + (-1)) 8 (nm ((upd2 I 321 v4.toNatClampNeg ((I 321 v4.toNatClampNeg) + 1)) 321 (v4 + (-1)).toNatClampNeg) (fun x31 => ck ((5 * x31) + 1) 80 (nm ((upd2 I 321 v4.toNatClampNeg ((I 321 v4.toNatClampNeg) + 1)) 313 ((5 * x31) + 1).toNatClampNeg) (fun x34 => nm ((upd2 I 321 v4.toNatClampNeg ((I 321 v4.toNatClampNeg) + 1)) 321 (v4 + (-1)).toNatClampNeg) (fun x36 => ck (5 * x36) 80 (nm ((upd2 I 321 v4.toNatClampNeg ((I 321 v4.toNatClampNeg) + 1)) 313 (5 * x36).toNatClampNeg) (fun x39 => mX11_isFound_28 N k2 k3 n (v4 + (-1)) (v5 &&& (((1 : Int32) <<< (x34 &&& 31)) ^^^ (-1))) x39 (upd2 I 321 v4.toNatClampNeg ((I 321 v4.toNatClampNeg) + 1)))))))))) else (mX11_isFound_28 N k2 k3 n (v4 + (-1)) v5 v6 (upd2 I 321 v4.toNatClampNeg ((I 321 v4.toNatClampNeg) + 1))))))))
def mX11_isFound (N : Nat) (a2 : Int32) (a3 : Int32) (a4 : Int32) (I : gI) : Option (Int32 × gI) := nm (upd2 (upd2 (upd2 I 310 32 (-1)) 310 35 0) 321 (0 : Int32).toNatClampNeg (-1)) (fun I1 => Option.bind (mX11_isFound_28 N a3 a4 N 0 ((1 : Int32) <<< (a2 &&& 31)) a2 I1) (fun I41 => if (I41 310 32) = (-1) then (some (0, I41)) else (some (1, I41))))
set_option maxHeartbeats 4000000 in
set_option maxRecDepth 100000 in
theorem wX11_isFound_28 (N : Nat) (d : Nat) (hd : 2 ≤ d) {S : gS} {J : gJ} (hS : Sh S)  (k2 : Int32) (k3 : Int32) {Q : gO → gS → gI → gJ → Prop} :
    ∀ (n : Nat) (v4 : Int32) (v5 : Int32) (v6 : Int32) (I : gI) (res : gI), mX11_isFound_28 N k2 k3 n v4 v5 v6 I = some res → (∀ (O : gI), res = O → Wp RX11 cX11_isFound 9 (some .boolean) [] hF d 0 0 223 [(0, .ref 310)] [] S O J Q) → Wp RX11 cX11_isFound 9 (some .boolean) [] hF d 0 0 28 [(0, .ref 310), (2, .int k2), (3, .int k3), (4, .int v4), (5, .int v5), (6, .int v6)] [] S I J Q := by
  intro n
  induction n with
  | zero => intro v4 v5 v6 I res h; exact nso h
  | succ n ih =>
    intro v4 v5 v6 I res h kx
    rw [mX11_isFound_28] at h
    refine wp_iload dX11_isFound_28 rfl ?_
    refine wp_if_lt (tgt := 223) dX11_isFound_30 (by decide) (fun hc3 => ?_) (fun hc3 => ?_)
    · have h := ite_t hc3 h
      exact wp_pick (ks := [0]) rfl (kx _ (sji h).symm)
    · have h := ite_f hc3 h
      refine wp_aload_n dX11_isFound_33 rfl rfl ?_
      refine wp_getR dX11_isFound_34 flX11_48 rfl (sk310 hS) (sn310 hS) (sr310_28 hS) ?_
      refine wp_iload dX11_isFound_37 rfl ?_
      refine wp_dup2 dX11_isFound_39 rfl rfl ?_
      obtain ⟨hb4, h⟩ := ck_inv h
      refine wp_iald dX11_isFound_40 (sk321 hS) (sn321 hS) hb4 ?_
      refine wp_iconst (v := 1) dX11_isFound_41 (by decide) ?_
      refine wp_iadd dX11_isFound_42 ?_
      refine wp_iast dX11_isFound_43 (sk321 hS) (sn321 hS) hb4 ?_
      refine wp_aload_n dX11_isFound_44 rfl rfl ?_
      refine wp_getR dX11_isFound_45 flX11_48 rfl (sk310 hS) (sn310 hS) (sr310_28 hS) ?_
      refine wp_iload dX11_isFound_48 rfl ?_
      refine wp_iald dX11_isFound_50 (sk321 hS) (sn321 hS) hb4 ?_
      obtain ⟨x5, hx6, h⟩ := nm_inv h
      refine wp_topi hx6 ?_
      refine wp_istore (ls' := [(7, .int x5), (0, .ref 310), (2, .int k2), (3, .int k3), (4, .int v4), (5, .int v5), (6, .int v6)]) dX11_isFound_51 (Nat.le_of_ble_eq_true rfl) rfl ?_
      refine wp_iload dX11_isFound_53 rfl ?_
      refine wp_aload_n dX11_isFound_55 rfl rfl ?_
      refine wp_getI dX11_isFound_56 flX11_199 rfl (sk310 hS) (sn310 hS) ?_
      obtain ⟨x7, hx8, h⟩ := nm_inv h
      refine wp_topi hx8 ?_
      refine wp_icmp_lt (tgt := 117) dX11_isFound_59 (by decide) (fun hc9 => ?_) (fun hc9 => ?_)
      · have h := ite_t hc9 h
        refine wp_aload_n dX11_isFound_117 rfl rfl ?_
        refine wp_getR dX11_isFound_118 flX11_23 rfl (sk310 hS) (sn310 hS) (sr310_19 hS) ?_
        refine wp_iconst (v := 5) dX11_isFound_121 (by decide) ?_
        refine wp_iload dX11_isFound_122 rfl ?_
        refine wp_imul dX11_isFound_124 ?_
        refine wp_iconst (v := 1) dX11_isFound_125 (by decide) ?_
        refine wp_iadd dX11_isFound_126 ?_
        obtain ⟨hb10, h⟩ := ck_inv h
        refine wp_iald dX11_isFound_127 (sk313 hS) (sn313 hS) hb10 ?_
        obtain ⟨x11, hx12, h⟩ := nm_inv h
        refine wp_topi hx12 ?_
        refine wp_istore (ls' := [(8, .int x11), (7, .int x5), (0, .ref 310), (2, .int k2), (3, .int k3), (4, .int v4), (5, .int v5), (6, .int v6)]) dX11_isFound_128 (Nat.le_of_ble_eq_true rfl) rfl ?_
        refine wp_aload_n dX11_isFound_130 rfl rfl ?_
        refine wp_getR dX11_isFound_131 flX11_41 rfl (sk310 hS) (sn310 hS) (sr310_26 hS) ?_
        refine wp_iload dX11_isFound_134 rfl ?_
        obtain ⟨hb13, h⟩ := ck_inv h
        refine wp_zald dX11_isFound_136 (sk319 hS) (sn319 hS) hb13 ?_
        obtain ⟨x14, hx15, h⟩ := nm_inv h
        refine wp_topi hx15 ?_
        refine wp_if_eq (tgt := 28) dX11_isFound_137 (by decide) (fun hc16 => ?_) (fun hc16 => ?_)
        · have h := ite_t hc16 h
          exact wp_pick (ks := [2, 3, 4, 5, 6, 7]) rfl (ih _ _ _ _ _ h kx)
        · have h := ite_f hc16 h
          refine wp_aload_n dX11_isFound_140 rfl rfl ?_
          refine wp_getR dX11_isFound_141 flX11_23 rfl (sk310 hS) (sn310 hS) (sr310_19 hS) ?_
          refine wp_iconst (v := 5) dX11_isFound_144 (by decide) ?_
          refine wp_iload dX11_isFound_145 rfl ?_
          refine wp_imul dX11_isFound_147 ?_
          obtain ⟨hb17, h⟩ := ck_inv h
          refine wp_iald dX11_isFound_148 (sk313 hS) (sn313 hS) hb17 ?_
          obtain ⟨x18, hx19, h⟩ := nm_inv h
          refine wp_topi hx19 ?_
          refine wp_iload dX11_isFound_149 rfl ?_
          refine wp_icmp_ne (tgt := 28) dX11_isFound_151 (by decide) (fun hc20 => ?_) (fun hc20 => ?_)
          · have h := ite_f hc20 h
            exact wp_pick (ks := [2, 3, 4, 5, 6, 7]) rfl (ih _ _ _ _ _ h kx)
          · have h := ite_t hc20 h
            refine wp_iload dX11_isFound_154 rfl ?_
            refine wp_iload dX11_isFound_156 rfl ?_
            refine wp_ishr dX11_isFound_158 ?_
            refine wp_iconst (v := 1) dX11_isFound_159 (by decide) ?_
            refine wp_iand dX11_isFound_160 ?_
            refine wp_iconst (v := 1) dX11_isFound_161 (by decide) ?_
            refine wp_icmp_ne (tgt := 168) dX11_isFound_162 (by decide) (fun hc21 => ?_) (fun hc21 => ?_)
            · have h := ite_f hc21 h
              refine wp_iload dX11_isFound_168 rfl ?_
              refine wp_iload_n dX11_isFound_170 rfl rfl ?_
              refine wp_icmp_ne (tgt := 185) dX11_isFound_171 (by decide) (fun hc22 => ?_) (fun hc22 => ?_)
              · have h := ite_f hc22 h
                refine wp_iload dX11_isFound_185 rfl ?_
                refine wp_iconst (v := 1) dX11_isFound_187 (by decide) ?_
                refine wp_iadd dX11_isFound_188 ?_
                refine wp_iload_n dX11_isFound_189 rfl rfl ?_
                refine wp_icmp_ne (tgt := 196) dX11_isFound_190 (by decide) (fun hc23 => ?_) (fun hc23 => ?_)
                · have h := ite_f hc23 h
                  refine wp_iload dX11_isFound_196 rfl ?_
                  refine wp_iconst (v := 1) dX11_isFound_198 (by decide) ?_
                  refine wp_iload dX11_isFound_199 rfl ?_
                  refine wp_ishl dX11_isFound_201 ?_
                  refine wp_ior dX11_isFound_202 ?_
                  refine wp_istore (ls' := [(5, .int (v5 ||| ((1 : Int32) <<< (x11 &&& 31)))), (8, .int x11), (7, .int x5), (0, .ref 310), (2, .int k2), (3, .int k3), (4, .int v4), (6, .int v6)]) dX11_isFound_203 (Nat.le_of_ble_eq_true rfl) rfl ?_
                  refine wp_iload dX11_isFound_205 rfl ?_
                  refine wp_istore (ls' := [(6, .int x11), (5, .int (v5 ||| ((1 : Int32) <<< (x11 &&& 31)))), (8, .int x11), (7, .int x5), (0, .ref 310), (2, .int k2), (3, .int k3), (4, .int v4)]) dX11_isFound_207 (Nat.le_of_ble_eq_true rfl) rfl ?_
                  refine wp_iinc (v := 1) (ls' := [(4, .int (v4 + 1)), (6, .int x11), (5, .int (v5 ||| ((1 : Int32) <<< (x11 &&& 31)))), (8, .int x11), (7, .int x5), (0, .ref 310), (2, .int k2), (3, .int k3)]) dX11_isFound_209 rfl (by decide) (Nat.le_of_ble_eq_true rfl) rfl ?_
                  refine wp_aload_n dX11_isFound_212 rfl rfl ?_
                  refine wp_getR dX11_isFound_213 flX11_48 rfl (sk310 hS) (sn310 hS) (sr310_28 hS) ?_
                  refine wp_iload dX11_isFound_216 rfl ?_
                  refine wp_iconst (v := (-1)) dX11_isFound_218 (by decide) ?_
                  obtain ⟨hb24, h⟩ := ck_inv h
                  refine wp_iast dX11_isFound_219 (sk321 hS) (sn321 hS) hb24 ?_
                  obtain ⟨I25, hx26, h⟩ := nm_inv h
                  refine wp_nmI hx26 ?_
                  refine wp_goto (tgt := 28) dX11_isFound_220 (by decide) ?_
                  exact wp_pick (ks := [5, 6, 7, 0, 2, 1]) rfl (ih _ _ _ _ _ h kx)
                · have h := ite_t hc23 h
                  refine wp_goto (tgt := 28) dX11_isFound_193 (by decide) ?_
                  exact wp_pick (ks := [2, 3, 4, 5, 6, 7]) rfl (ih _ _ _ _ _ h kx)
              · have h := ite_t hc22 h
                refine wp_aload_n dX11_isFound_174 rfl rfl ?_
                refine wp_iload dX11_isFound_175 rfl ?_
                refine wp_iconst (v := 1) dX11_isFound_177 (by decide) ?_
                refine wp_iadd dX11_isFound_178 ?_
                obtain ⟨I27, hF28, h⟩ := obi h
                refine wp_callVv (ci := 11) (As := [.int (v4 + 1)]) dX11_isFound_179 lbX11_laysBest mlX11_255 imX11_laysBest seX11_laysBest vc11 (ct_X11_laysBest N 1 (Nat.le_refl _) hS  hF28) rfl rfl (Nat.le_trans (by decide) hd) (sk310 hS) (sn310 hS) (Nat.le_of_ble_eq_true rfl) (fun _ => ?_)
                refine wp_goto (tgt := 28) dX11_isFound_182 (by decide) ?_
                exact wp_pick (ks := [2, 3, 4, 5, 6, 7]) rfl (ih _ _ _ _ _ h kx)
            · have h := ite_t hc21 h
              refine wp_goto (tgt := 28) dX11_isFound_165 (by decide) ?_
              exact wp_pick (ks := [2, 3, 4, 5, 6, 7]) rfl (ih _ _ _ _ _ h kx)
      · have h := ite_f hc9 h
        refine wp_iinc (v := (-1)) (ls' := [(4, .int (v4 + (-1))), (7, .int x5), (0, .ref 310), (2, .int k2), (3, .int k3), (5, .int v5), (6, .int v6)]) dX11_isFound_62 rfl (by decide) (Nat.le_of_ble_eq_true rfl) rfl ?_
        refine wp_iload dX11_isFound_65 rfl ?_
        refine wp_if_ge (tgt := 73) dX11_isFound_67 (by decide) (fun hc29 => ?_) (fun hc29 => ?_)
        · have h := ite_t hc29 h
          refine wp_iload dX11_isFound_73 rfl ?_
          refine wp_iconst (v := 1) dX11_isFound_75 (by decide) ?_
          refine wp_aload_n dX11_isFound_76 rfl rfl ?_
          refine wp_getR dX11_isFound_77 flX11_23 rfl (sk310 hS) (sn310 hS) (sr310_19 hS) ?_
          refine wp_iconst (v := 5) dX11_isFound_80 (by decide) ?_
          refine wp_aload_n dX11_isFound_81 rfl rfl ?_
          refine wp_getR dX11_isFound_82 flX11_48 rfl (sk310 hS) (sn310 hS) (sr310_28 hS) ?_
          refine wp_iload dX11_isFound_85 rfl ?_
          obtain ⟨hb30, h⟩ := ck_inv h
          refine wp_iald dX11_isFound_87 (sk321 hS) (sn321 hS) hb30 ?_
          obtain ⟨x31, hx32, h⟩ := nm_inv h
          refine wp_topi hx32 ?_
          refine wp_imul dX11_isFound_88 ?_
          refine wp_iconst (v := 1) dX11_isFound_89 (by decide) ?_
          refine wp_iadd dX11_isFound_90 ?_
          obtain ⟨hb33, h⟩ := ck_inv h
          refine wp_iald dX11_isFound_91 (sk313 hS) (sn313 hS) hb33 ?_
          obtain ⟨x34, hx35, h⟩ := nm_inv h
          refine wp_topi hx35 ?_
          refine wp_ishl dX11_isFound_92 ?_
          refine wp_iconst (v := (-1)) dX11_isFound_93 (by decide) ?_
          refine wp_ixor dX11_isFound_94 ?_
          refine wp_iand dX11_isFound_95 ?_
          refine wp_istore (ls' := [(5, .int (v5 &&& (((1 : Int32) <<< (x34 &&& 31)) ^^^ (-1)))), (4, .int (v4 + (-1))), (7, .int x5), (0, .ref 310), (2, .int k2), (3, .int k3), (6, .int v6)]) dX11_isFound_96 (Nat.le_of_ble_eq_true rfl) rfl ?_
          refine wp_aload_n dX11_isFound_98 rfl rfl ?_
          refine wp_getR dX11_isFound_99 flX11_23 rfl (sk310 hS) (sn310 hS) (sr310_19 hS) ?_
          refine wp_iconst (v := 5) dX11_isFound_102 (by decide) ?_
          refine wp_aload_n dX11_isFound_103 rfl rfl ?_
          refine wp_getR dX11_isFound_104 flX11_48 rfl (sk310 hS) (sn310 hS) (sr310_28 hS) ?_
          refine wp_iload dX11_isFound_107 rfl ?_
          refine wp_iald dX11_isFound_109 (sk321 hS) (sn321 hS) hb30 ?_
          obtain ⟨x36, hx37, h⟩ := nm_inv h
          refine wp_topi hx37 ?_
          refine wp_imul dX11_isFound_110 ?_
          obtain ⟨hb38, h⟩ := ck_inv h
          refine wp_iald dX11_isFound_111 (sk313 hS) (sn313 hS) hb38 ?_
          obtain ⟨x39, hx40, h⟩ := nm_inv h
          refine wp_topi hx40 ?_
          refine wp_istore (ls' := [(6, .int x39), (5, .int (v5 &&& (((1 : Int32) <<< (x34 &&& 31)) ^^^ (-1)))), (4, .int (v4 + (-1))), (7, .int x5), (0, .ref 310), (2, .int k2), (3, .int k3)]) dX11_isFound_112 (Nat.le_of_ble_eq_true rfl) rfl ?_
          refine wp_goto (tgt := 28) dX11_isFound_114 (by decide) ?_
          exact wp_pick (ks := [4, 5, 6, 2, 1, 0]) rfl (ih _ _ _ _ _ h kx)
        · have h := ite_f hc29 h
          refine wp_goto (tgt := 28) dX11_isFound_70 (by decide) ?_
          exact wp_pick (ks := [2, 3, 4, 0, 5, 6]) rfl (ih _ _ _ _ _ h kx)
set_option maxHeartbeats 4000000 in
set_option maxRecDepth 100000 in
theorem ct_X11_isFound (N : Nat) (d : Nat) (hd : 2 ≤ d) {S : gS} {J : gJ} (hS : Sh S)  {a2 : Int32} {a3 : Int32} {a4 : Int32} {I : gI} {r : Int32 × gI} (h : mX11_isFound N a2 a3 a4 I = some r) : Ct yX11_isFound (wsY yX11_isFound cX11_isFound 9 (some .boolean)) d 0 0 [.ref 310, .int a2, .int a3, .int a4] S I J (qE (.inl (some (.int r.1))) S r.2 J) := by
  refine Ct.of hF (fun _ _ _ _ _ => trivial) (by decide +kernel) (Nat.le_of_ble_eq_true rfl) ⟨Or.inl (sn310 hS), trivial, trivial, trivial, trivial⟩ ?_
  show Wp RX11 cX11_isFound 9 (some .boolean) [] hF d 0 0 0 [(0, .ref 310), (1, .int a2), (2, .int a3), (3, .int a4)] [] S I J _
  unfold mX11_isFound at h
  refine wp_aload_n dX11_isFound_0 rfl rfl ?_
  refine wp_iconst (v := (-1)) dX11_isFound_1 (by decide) ?_
  refine wp_putI dX11_isFound_2 (Or.inl fpX11_246) rfl ⟨rfl, rfl⟩ (sk310 hS) (sn310 hS) ?_
  refine wp_aload_n dX11_isFound_5 rfl rfl ?_
  refine wp_iconst (v := 0) dX11_isFound_6 (by decide) ?_
  refine wp_putI dX11_isFound_7 (Or.inl fpX11_243) rfl ⟨rfl, rfl⟩ (sk310 hS) (sn310 hS) ?_
  refine wp_iconst (v := 0) dX11_isFound_10 (by decide) ?_
  refine wp_istore (ls' := [(4, .int 0), (0, .ref 310), (1, .int a2), (2, .int a3), (3, .int a4)]) dX11_isFound_11 (Nat.le_of_ble_eq_true rfl) rfl ?_
  refine wp_iconst (v := 1) dX11_isFound_13 (by decide) ?_
  refine wp_iload_n dX11_isFound_14 rfl rfl ?_
  refine wp_ishl dX11_isFound_15 ?_
  refine wp_istore (ls' := [(5, .int ((1 : Int32) <<< (a2 &&& 31))), (4, .int 0), (0, .ref 310), (1, .int a2), (2, .int a3), (3, .int a4)]) dX11_isFound_16 (Nat.le_of_ble_eq_true rfl) rfl ?_
  refine wp_iload_n dX11_isFound_18 rfl rfl ?_
  refine wp_istore (ls' := [(6, .int a2), (5, .int ((1 : Int32) <<< (a2 &&& 31))), (4, .int 0), (0, .ref 310), (1, .int a2), (2, .int a3), (3, .int a4)]) dX11_isFound_19 (Nat.le_of_ble_eq_true rfl) rfl ?_
  refine wp_aload_n dX11_isFound_21 rfl rfl ?_
  refine wp_getR dX11_isFound_22 flX11_48 rfl (sk310 hS) (sn310 hS) (sr310_28 hS) ?_
  refine wp_iconst (v := 0) dX11_isFound_25 (by decide) ?_
  refine wp_iconst (v := (-1)) dX11_isFound_26 (by decide) ?_
  refine wp_iast dX11_isFound_27 (sk321 hS) (sn321 hS) (inb_in (by decide)) ?_
  obtain ⟨I1, hx2, h⟩ := nm_inv h
  refine wp_nmI hx2 ?_
  obtain ⟨I41, hL943, h⟩ := obi h
  refine wp_pick (ks := [3, 5, 6, 2, 1, 0]) rfl (wX11_isFound_28 N d hd hS  a3 a4 N 0 ((1 : Int32) <<< (a2 &&& 31)) a2 I1 _ hL943 (fun _ e44 => ?_))
  cases e44
  refine wp_aload_n dX11_isFound_223 rfl rfl ?_
  refine wp_getI dX11_isFound_224 flX11_246 rfl (sk310 hS) (sn310 hS) ?_
  refine wp_iconst (v := (-1)) dX11_isFound_227 (by decide) ?_
  refine wp_icmp_eq (tgt := 235) dX11_isFound_228 (by decide) (fun hc42 => ?_) (fun hc42 => ?_)
  · have h := ite_t hc42 h
    refine wp_iconst (v := 0) dX11_isFound_235 (by decide) ?_
    exact wp_zret dX11_isFound_236 rfl (by decide) (by obtain rfl := sji h; exact ⟨rfl, rfl, rfl, rfl⟩)
  · have h := ite_f hc42 h
    refine wp_iconst (v := 1) dX11_isFound_231 (by decide) ?_
    refine wp_goto (tgt := 236) dX11_isFound_232 (by decide) ?_
    exact wp_zret dX11_isFound_236 rfl (by decide) (by obtain rfl := sji h; exact ⟨rfl, rfl, rfl, rfl⟩)
def mX11_hasBest (N : Nat) (a2 : Int32) (a3 : Int32) (a4 : Int32) (I : gI) : Option (Int32 × gI) := Option.bind (mX11_setupOf a3 I) (fun r1 => ck ((7 * a3) + 5) 63 (Option.bind (mX11_laysPools N a2 a3 a4 r1 (I 315 ((7 * a3) + 5).toNatClampNeg) I) (fun I4 => ck (7 * a3) 63 (ck ((7 * a3) + 1) 63 (ck ((7 * a3) + 6) 63 (Option.bind (mX11_isFound N (I4 315 (7 * a3).toNatClampNeg) (I4 315 ((7 * a3) + 1).toNatClampNeg) (I4 315 ((7 * a3) + 6).toNatClampNeg) I4) (fun (r9, I10) => zo r9 (some (r9, I10)))))))))
set_option maxHeartbeats 4000000 in
set_option maxRecDepth 100000 in
theorem ct_X11_hasBest (N : Nat) (d : Nat) (hd : 3 ≤ d) {S : gS} {J : gJ} (hS : Sh S)  {a2 : Int32} {a3 : Int32} {a4 : Int32} {I : gI} {r : Int32 × gI} (h : mX11_hasBest N a2 a3 a4 I = some r) : Ct yX11_hasBest (wsY yX11_hasBest cX11_hasBest 4 (some .boolean)) d 0 0 [.ref 310, .int a2, .int a3, .int a4] S I J (qE (.inl (some (.int r.1))) S r.2 J) := by
  refine Ct.of hF (fun _ _ _ _ _ => trivial) (by decide +kernel) (Nat.le_of_ble_eq_true rfl) ⟨Or.inl (sn310 hS), trivial, trivial, trivial, trivial⟩ ?_
  show Wp RX11 cX11_hasBest 4 (some .boolean) [] hF d 0 0 0 [(0, .ref 310), (1, .int a2), (2, .int a3), (3, .int a4)] [] S I J _
  unfold mX11_hasBest at h
  refine wp_aload_n dX11_hasBest_0 rfl rfl ?_
  refine wp_iload_n dX11_hasBest_1 rfl rfl ?_
  refine wp_iload_n dX11_hasBest_2 rfl rfl ?_
  refine wp_iload_n dX11_hasBest_3 rfl rfl ?_
  refine wp_aload_n dX11_hasBest_4 rfl rfl ?_
  refine wp_iload_n dX11_hasBest_5 rfl rfl ?_
  obtain ⟨r1, hF2, h⟩ := obi h
  refine wp_callVi (ci := 11) (As := [.int a3]) dX11_hasBest_6 lbX11_setupOf mlX11_258 imX11_setupOf seX11_setupOf vc11 (ct_X11_setupOf 0 (Nat.le_refl _) hS  hF2) rfl rfl (Nat.le_trans (by decide) hd) (sk310 hS) (sn310 hS) (Nat.le_of_ble_eq_true rfl) (fun _ => ?_)
  refine wp_aload_n dX11_hasBest_9 rfl rfl ?_
  refine wp_getR dX11_hasBest_10 flX11_29 rfl (sk310 hS) (sn310 hS) (sr310_21 hS) ?_
  refine wp_bipush (v := 7) dX11_hasBest_13 (by decide) ?_
  refine wp_iload_n dX11_hasBest_15 rfl rfl ?_
  refine wp_imul dX11_hasBest_16 ?_
  refine wp_iconst (v := 5) dX11_hasBest_17 (by decide) ?_
  refine wp_iadd dX11_hasBest_18 ?_
  obtain ⟨hb3, h⟩ := ck_inv h
  refine wp_iald dX11_hasBest_19 (sk315 hS) (sn315 hS) hb3 ?_
  obtain ⟨I4, hF5, h⟩ := obi h
  refine wp_callVv (ci := 11) (As := [.int a2, .int a3, .int a4, .int r1, .int (I 315 ((7 * a3) + 5).toNatClampNeg)]) dX11_hasBest_20 lbX11_laysPools mlX11_261 imX11_laysPools seX11_laysPools vc11 (ct_X11_laysPools N 2 (Nat.le_refl _) hS  hF5) rfl rfl (Nat.le_trans (by decide) hd) (sk310 hS) (sn310 hS) (Nat.le_of_ble_eq_true rfl) (fun _ => ?_)
  refine wp_aload_n dX11_hasBest_23 rfl rfl ?_
  refine wp_aload_n dX11_hasBest_24 rfl rfl ?_
  refine wp_getR dX11_hasBest_25 flX11_29 rfl (sk310 hS) (sn310 hS) (sr310_21 hS) ?_
  refine wp_bipush (v := 7) dX11_hasBest_28 (by decide) ?_
  refine wp_iload_n dX11_hasBest_30 rfl rfl ?_
  refine wp_imul dX11_hasBest_31 ?_
  obtain ⟨hb6, h⟩ := ck_inv h
  refine wp_iald dX11_hasBest_32 (sk315 hS) (sn315 hS) hb6 ?_
  refine wp_aload_n dX11_hasBest_33 rfl rfl ?_
  refine wp_getR dX11_hasBest_34 flX11_29 rfl (sk310 hS) (sn310 hS) (sr310_21 hS) ?_
  refine wp_bipush (v := 7) dX11_hasBest_37 (by decide) ?_
  refine wp_iload_n dX11_hasBest_39 rfl rfl ?_
  refine wp_imul dX11_hasBest_40 ?_
  refine wp_iconst (v := 1) dX11_hasBest_41 (by decide) ?_
  refine wp_iadd dX11_hasBest_42 ?_
  obtain ⟨hb7, h⟩ := ck_inv h
  refine wp_iald dX11_hasBest_43 (sk315 hS) (sn315 hS) hb7 ?_
  refine wp_aload_n dX11_hasBest_44 rfl rfl ?_
  refine wp_getR dX11_hasBest_45 flX11_29 rfl (sk310 hS) (sn310 hS) (sr310_21 hS) ?_
  refine wp_bipush (v := 7) dX11_hasBest_48 (by decide) ?_
  refine wp_iload_n dX11_hasBest_50 rfl rfl ?_
  refine wp_imul dX11_hasBest_51 ?_
  refine wp_bipush (v := 6) dX11_hasBest_52 (by decide) ?_
  refine wp_iadd dX11_hasBest_54 ?_
  obtain ⟨hb8, h⟩ := ck_inv h
  refine wp_iald dX11_hasBest_55 (sk315 hS) (sn315 hS) hb8 ?_
  obtain ⟨⟨r9, I10⟩, hF11, h⟩ := obi h
  refine wp_callVi (ci := 11) (As := [.int (I4 315 (7 * a3).toNatClampNeg), .int (I4 315 ((7 * a3) + 1).toNatClampNeg), .int (I4 315 ((7 * a3) + 6).toNatClampNeg)]) dX11_hasBest_56 lbX11_isFound mlX11_265 imX11_isFound seX11_isFound vc11 (ct_X11_isFound N 2 (Nat.le_refl _) hS  hF11) rfl rfl (Nat.le_trans (by decide) hd) (sk310 hS) (sn310 hS) (Nat.le_of_ble_eq_true rfl) (fun _ => ?_)
  obtain ⟨hz12, h⟩ := zo_inv h
  exact wp_zret dX11_hasBest_59 rfl hz12 (by obtain rfl := sji h; exact ⟨rfl, rfl, rfl, rfl⟩)
def mX11_hasAny (N : Nat) (a2 : Int32) (a3 : Int32) (I : gI) : Option (Int32 × gI) := ck ((7 * a3) + 5) 63 (Option.bind (mX11_laysPools N a2 (-1) 0 (-1) (I 315 ((7 * a3) + 5).toNatClampNeg) I) (fun I2 => ck (7 * a3) 63 (ck ((7 * a3) + 1) 63 (ck ((7 * a3) + 6) 63 (Option.bind (mX11_isFound N (I2 315 (7 * a3).toNatClampNeg) (I2 315 ((7 * a3) + 1).toNatClampNeg) (I2 315 ((7 * a3) + 6).toNatClampNeg) I2) (fun (r7, I8) => zo r7 (some (r7, I8))))))))
set_option maxHeartbeats 4000000 in
set_option maxRecDepth 100000 in
theorem ct_X11_hasAny (N : Nat) (d : Nat) (hd : 3 ≤ d) {S : gS} {J : gJ} (hS : Sh S)  {a2 : Int32} {a3 : Int32} {I : gI} {r : Int32 × gI} (h : mX11_hasAny N a2 a3 I = some r) : Ct yX11_hasAny (wsY yX11_hasAny cX11_hasAny 3 (some .boolean)) d 0 0 [.ref 310, .int a2, .int a3] S I J (qE (.inl (some (.int r.1))) S r.2 J) := by
  refine Ct.of hF (fun _ _ _ _ _ => trivial) (by decide +kernel) (Nat.le_of_ble_eq_true rfl) ⟨Or.inl (sn310 hS), trivial, trivial, trivial⟩ ?_
  show Wp RX11 cX11_hasAny 3 (some .boolean) [] hF d 0 0 0 [(0, .ref 310), (1, .int a2), (2, .int a3)] [] S I J _
  unfold mX11_hasAny at h
  refine wp_aload_n dX11_hasAny_0 rfl rfl ?_
  refine wp_iload_n dX11_hasAny_1 rfl rfl ?_
  refine wp_iconst (v := (-1)) dX11_hasAny_2 (by decide) ?_
  refine wp_iconst (v := 0) dX11_hasAny_3 (by decide) ?_
  refine wp_iconst (v := (-1)) dX11_hasAny_4 (by decide) ?_
  refine wp_aload_n dX11_hasAny_5 rfl rfl ?_
  refine wp_getR dX11_hasAny_6 flX11_29 rfl (sk310 hS) (sn310 hS) (sr310_21 hS) ?_
  refine wp_bipush (v := 7) dX11_hasAny_9 (by decide) ?_
  refine wp_iload_n dX11_hasAny_11 rfl rfl ?_
  refine wp_imul dX11_hasAny_12 ?_
  refine wp_iconst (v := 5) dX11_hasAny_13 (by decide) ?_
  refine wp_iadd dX11_hasAny_14 ?_
  obtain ⟨hb1, h⟩ := ck_inv h
  refine wp_iald dX11_hasAny_15 (sk315 hS) (sn315 hS) hb1 ?_
  obtain ⟨I2, hF3, h⟩ := obi h
  refine wp_callVv (ci := 11) (As := [.int a2, .int (-1), .int 0, .int (-1), .int (I 315 ((7 * a3) + 5).toNatClampNeg)]) dX11_hasAny_16 lbX11_laysPools mlX11_261 imX11_laysPools seX11_laysPools vc11 (ct_X11_laysPools N 2 (Nat.le_refl _) hS  hF3) rfl rfl (Nat.le_trans (by decide) hd) (sk310 hS) (sn310 hS) (Nat.le_of_ble_eq_true rfl) (fun _ => ?_)
  refine wp_aload_n dX11_hasAny_19 rfl rfl ?_
  refine wp_aload_n dX11_hasAny_20 rfl rfl ?_
  refine wp_getR dX11_hasAny_21 flX11_29 rfl (sk310 hS) (sn310 hS) (sr310_21 hS) ?_
  refine wp_bipush (v := 7) dX11_hasAny_24 (by decide) ?_
  refine wp_iload_n dX11_hasAny_26 rfl rfl ?_
  refine wp_imul dX11_hasAny_27 ?_
  obtain ⟨hb4, h⟩ := ck_inv h
  refine wp_iald dX11_hasAny_28 (sk315 hS) (sn315 hS) hb4 ?_
  refine wp_aload_n dX11_hasAny_29 rfl rfl ?_
  refine wp_getR dX11_hasAny_30 flX11_29 rfl (sk310 hS) (sn310 hS) (sr310_21 hS) ?_
  refine wp_bipush (v := 7) dX11_hasAny_33 (by decide) ?_
  refine wp_iload_n dX11_hasAny_35 rfl rfl ?_
  refine wp_imul dX11_hasAny_36 ?_
  refine wp_iconst (v := 1) dX11_hasAny_37 (by decide) ?_
  refine wp_iadd dX11_hasAny_38 ?_
  obtain ⟨hb5, h⟩ := ck_inv h
  refine wp_iald dX11_hasAny_39 (sk315 hS) (sn315 hS) hb5 ?_
  refine wp_aload_n dX11_hasAny_40 rfl rfl ?_
  refine wp_getR dX11_hasAny_41 flX11_29 rfl (sk310 hS) (sn310 hS) (sr310_21 hS) ?_
  refine wp_bipush (v := 7) dX11_hasAny_44 (by decide) ?_
  refine wp_iload_n dX11_hasAny_46 rfl rfl ?_
  refine wp_imul dX11_hasAny_47 ?_
  refine wp_bipush (v := 6) dX11_hasAny_48 (by decide) ?_
  refine wp_iadd dX11_hasAny_50 ?_
  obtain ⟨hb6, h⟩ := ck_inv h
  refine wp_iald dX11_hasAny_51 (sk315 hS) (sn315 hS) hb6 ?_
  obtain ⟨⟨r7, I8⟩, hF9, h⟩ := obi h
  refine wp_callVi (ci := 11) (As := [.int (I2 315 (7 * a3).toNatClampNeg), .int (I2 315 ((7 * a3) + 1).toNatClampNeg), .int (I2 315 ((7 * a3) + 6).toNatClampNeg)]) dX11_hasAny_52 lbX11_isFound mlX11_265 imX11_isFound seX11_isFound vc11 (ct_X11_isFound N 2 (Nat.le_refl _) hS  hF9) rfl rfl (Nat.le_trans (by decide) hd) (sk310 hS) (sn310 hS) (Nat.le_of_ble_eq_true rfl) (fun _ => ?_)
  obtain ⟨hz10, h⟩ := zo_inv h
  exact wp_zret dX11_hasAny_55 rfl hz10 (by obtain rfl := sji h; exact ⟨rfl, rfl, rfl, rfl⟩)
def mX11_takes_17 (k1 : Int32) (k2 : Int32) : Nat → Int32 → gI → Option (gI)
  | 0, _, _ => none
  | n + 1, v3, I => if (I 310 32) ≤ v3 then (some I) else (ck v3 7 (ck (((k1 + 19) + (7 * k2)) + v3) 164 (nm (upd2 I 317 (((k1 + 19) + (7 * k2)) + v3).toNatClampNeg (I 322 v3.toNatClampNeg)) (fun I5 => mX11_takes_17 k1 k2 n (v3 + 1) I5))))
def mX11_takes (N : Nat) (a2 : Int32) (a3 : Int32) (I : gI) : Option (gI) := ck ((a2 + 10) + a3) 164 (Option.bind (mX11_takes_17 a2 a3 N 0 (upd2 I 317 ((a2 + 10) + a3).toNatClampNeg (I 310 32))) (fun I7 => some I7))
set_option maxHeartbeats 4000000 in
set_option maxRecDepth 100000 in
theorem wX11_takes_17 (d : Nat) (hd : 0 ≤ d) {S : gS} {J : gJ} (hS : Sh S)  (k1 : Int32) (k2 : Int32) {Q : gO → gS → gI → gJ → Prop} :
    ∀ (n : Nat) (v3 : Int32) (I : gI) (res : gI), mX11_takes_17 k1 k2 n v3 I = some res → (∀ (O : gI), res = O → Wp RX11 cX11_takes 4 none [] hF d 0 0 53 [] [] S O J Q) → Wp RX11 cX11_takes 4 none [] hF d 0 0 17 [(0, .ref 310), (1, .int k1), (2, .int k2), (3, .int v3)] [] S I J Q := by
  intro n
  induction n with
  | zero => intro v3 I res h; exact nso h
  | succ n ih =>
    intro v3 I res h kx
    rw [mX11_takes_17] at h
    refine wp_iload_n dX11_takes_17 rfl rfl ?_
    refine wp_aload_n dX11_takes_18 rfl rfl ?_
    refine wp_getI dX11_takes_19 flX11_246 rfl (sk310 hS) (sn310 hS) ?_
    refine wp_icmp_ge (tgt := 53) dX11_takes_22 (by decide) (fun hc2 => ?_) (fun hc2 => ?_)
    · have h := ite_t hc2 h
      exact wp_pick (ks := []) rfl (kx _ (sji h).symm)
    · have h := ite_f hc2 h
      refine wp_aload_n dX11_takes_25 rfl rfl ?_
      refine wp_getR dX11_takes_26 flX11_35 rfl (sk310 hS) (sn310 hS) (sr310_23 hS) ?_
      refine wp_iload_n dX11_takes_29 rfl rfl ?_
      refine wp_bipush (v := 19) dX11_takes_30 (by decide) ?_
      refine wp_iadd dX11_takes_32 ?_
      refine wp_bipush (v := 7) dX11_takes_33 (by decide) ?_
      refine wp_iload_n dX11_takes_35 rfl rfl ?_
      refine wp_imul dX11_takes_36 ?_
      refine wp_iadd dX11_takes_37 ?_
      refine wp_iload_n dX11_takes_38 rfl rfl ?_
      refine wp_iadd dX11_takes_39 ?_
      refine wp_aload_n dX11_takes_40 rfl rfl ?_
      refine wp_getR dX11_takes_41 flX11_51 rfl (sk310 hS) (sn310 hS) (sr310_29 hS) ?_
      refine wp_iload_n dX11_takes_44 rfl rfl ?_
      obtain ⟨hb3, h⟩ := ck_inv h
      refine wp_iald dX11_takes_45 (sk322 hS) (sn322 hS) hb3 ?_
      obtain ⟨hb4, h⟩ := ck_inv h
      refine wp_iast dX11_takes_46 (sk317 hS) (sn317 hS) hb4 ?_
      obtain ⟨I5, hx6, h⟩ := nm_inv h
      refine wp_nmI hx6 ?_
      refine wp_iinc (v := 1) (ls' := [(3, .int (v3 + 1)), (0, .ref 310), (1, .int k1), (2, .int k2)]) dX11_takes_47 rfl (by decide) (Nat.le_of_ble_eq_true rfl) rfl ?_
      refine wp_goto (tgt := 17) dX11_takes_50 (by decide) ?_
      exact wp_pick (ks := [1, 2, 3, 0]) rfl (ih _ _ _ h kx)
set_option maxHeartbeats 4000000 in
set_option maxRecDepth 100000 in
theorem ct_X11_takes (N : Nat) (d : Nat) (hd : 0 ≤ d) {S : gS} {J : gJ} (hS : Sh S)  {a2 : Int32} {a3 : Int32} {I : gI} {r : gI} (h : mX11_takes N a2 a3 I = some r) : Ct yX11_takes (wsY yX11_takes cX11_takes 4 none) d 0 0 [.ref 310, .int a2, .int a3] S I J (qE (.inl none) S r J) := by
  refine Ct.of hF (fun _ _ _ _ _ => trivial) (by decide +kernel) (Nat.le_of_ble_eq_true rfl) ⟨Or.inl (sn310 hS), trivial, trivial, trivial⟩ ?_
  show Wp RX11 cX11_takes 4 none [] hF d 0 0 0 [(0, .ref 310), (1, .int a2), (2, .int a3)] [] S I J _
  unfold mX11_takes at h
  refine wp_aload_n dX11_takes_0 rfl rfl ?_
  refine wp_getR dX11_takes_1 flX11_35 rfl (sk310 hS) (sn310 hS) (sr310_23 hS) ?_
  refine wp_iload_n dX11_takes_4 rfl rfl ?_
  refine wp_bipush (v := 10) dX11_takes_5 (by decide) ?_
  refine wp_iadd dX11_takes_7 ?_
  refine wp_iload_n dX11_takes_8 rfl rfl ?_
  refine wp_iadd dX11_takes_9 ?_
  refine wp_aload_n dX11_takes_10 rfl rfl ?_
  refine wp_getI dX11_takes_11 flX11_246 rfl (sk310 hS) (sn310 hS) ?_
  obtain ⟨hb1, h⟩ := ck_inv h
  refine wp_iast dX11_takes_14 (sk317 hS) (sn317 hS) hb1 ?_
  refine wp_iconst (v := 0) dX11_takes_15 (by decide) ?_
  refine wp_istore_n (ls' := [(3, .int 0), (0, .ref 310), (1, .int a2), (2, .int a3)]) dX11_takes_16 rfl (Nat.le_of_ble_eq_true rfl) rfl ?_
  obtain ⟨I7, hL98, h⟩ := obi h
  refine wp_pick (ks := [1, 2, 3, 0]) rfl (wX11_takes_17 d hd hS  a2 a3 N 0 (upd2 I 317 ((a2 + 10) + a3).toNatClampNeg (I 310 32)) _ hL98 (fun _ e9 => ?_))
  cases e9
  exact wp_vret dX11_takes_53 rfl (by obtain rfl := sji h; exact ⟨rfl, rfl, rfl, rfl⟩)
def mX11_isEnough_50 (N : Nat) (k1 : Int32) (k2 : Int32) (k3 : Int32) (k4 : Int32) (k5 : Int32) (I : gI) : Nat → Int32 → Int32 → Option (Int32)
  | 0, _, _ => none
  | n + 1, v6, v7 => if (I 310 15) ≤ v7 then (some v6) else (if ((k3 >>> (v7 &&& 31)) &&& 1) = 1 then (Option.bind (mX11_wayBits N k1 v7 I) (fun r8 => if ((r8 >>> (k5 &&& 31)) &&& 1) = 1 then (ck ((k1 + 1) + v7) 164 (mX11_isEnough_50 N k1 k2 k3 k4 k5 I n (v6 - (I 317 ((k1 + 1) + v7).toNatClampNeg)) (v7 + 1))) else (mX11_isEnough_50 N k1 k2 k3 k4 k5 I n v6 (v7 + 1)))) else (mX11_isEnough_50 N k1 k2 k3 k4 k5 I n v6 (v7 + 1)))
def mX11_isEnough_3 (N : Nat) (k1 : Int32) (k2 : Int32) (k3 : Int32) (I : gI) : Nat → Int32 → Option ((Unit) ⊕ (Int32))
  | 0, _ => none
  | n + 1, v4 => ck ((k1 + 10) + k2) 164 (if (I 317 ((k1 + 10) + k2).toNatClampNeg) ≤ v4 then (some (.inl ())) else (ck (((k1 + 19) + (7 * k2)) + v4) 164 (Option.bind (mX11_takenAt N k1 (I 317 (((k1 + 19) + (7 * k2)) + v4).toNatClampNeg) I) (fun r4 => Option.bind (mX11_isEnough_50 N k1 k2 k3 v4 (I 317 (((k1 + 19) + (7 * k2)) + v4).toNatClampNeg) I N r4 0) (fun y12 => nm ((5 * (I 317 (((k1 + 19) + (7 * k2)) + v4).toNatClampNeg)) + 3) (fun x13 => ck x13 80 (if y12 ≤ (I 313 x13.toNatClampNeg) then (mX11_isEnough_3 N k1 k2 k3 I n (v4 + 1)) else (some (.inr 0)))))))))
def mX11_isEnough (N : Nat) (a2 : Int32) (a3 : Int32) (a4 : Int32) (I : gI) : Option (Int32) := lbind (mX11_isEnough_3 N a2 a3 a4 I N 0) (fun _ => some 1) (fun r21 => some r21)
set_option maxHeartbeats 4000000 in
set_option maxRecDepth 100000 in
theorem wX11_isEnough_50 (N : Nat) (d : Nat) (hd : 3 ≤ d) {S : gS} {J : gJ} (hS : Sh S)  (k1 : Int32) (k2 : Int32) (k3 : Int32) (k4 : Int32) (k5 : Int32) (I : gI) {Q : gO → gS → gI → gJ → Prop} :
    ∀ (n : Nat) (v6 : Int32) (v7 : Int32) (res : Int32), mX11_isEnough_50 N k1 k2 k3 k4 k5 I n v6 v7 = some res → (∀ (o6 : Int32), res = o6 → Wp RX11 cX11_isEnough 8 (some .boolean) [] hF d 0 0 107 [(0, .ref 310), (1, .int k1), (2, .int k2), (3, .int k3), (4, .int k4), (5, .int k5), (6, .int o6)] [] S I J Q) → Wp RX11 cX11_isEnough 8 (some .boolean) [] hF d 0 0 50 [(0, .ref 310), (1, .int k1), (2, .int k2), (3, .int k3), (4, .int k4), (5, .int k5), (6, .int v6), (7, .int v7)] [] S I J Q := by
  intro n
  induction n with
  | zero => intro v6 v7 res h; exact nso h
  | succ n ih =>
    intro v6 v7 res h kx
    rw [mX11_isEnough_50] at h
    refine wp_iload dX11_isEnough_50 rfl ?_
    refine wp_aload_n dX11_isEnough_52 rfl rfl ?_
    refine wp_getI dX11_isEnough_53 flX11_202 rfl (sk310 hS) (sn310 hS) ?_
    refine wp_icmp_ge (tgt := 107) dX11_isEnough_56 (by decide) (fun hc6 => ?_) (fun hc6 => ?_)
    · have h := ite_t hc6 h
      exact wp_pick (ks := [0, 1, 2, 3, 4, 5, 6]) rfl (kx _ (sji h).symm)
    · have h := ite_f hc6 h
      refine wp_iload_n dX11_isEnough_59 rfl rfl ?_
      refine wp_iload dX11_isEnough_60 rfl ?_
      refine wp_ishr dX11_isEnough_62 ?_
      refine wp_iconst (v := 1) dX11_isEnough_63 (by decide) ?_
      refine wp_iand dX11_isEnough_64 ?_
      refine wp_iconst (v := 1) dX11_isEnough_65 (by decide) ?_
      refine wp_icmp_ne (tgt := 101) dX11_isEnough_66 (by decide) (fun hc7 => ?_) (fun hc7 => ?_)
      · have h := ite_f hc7 h
        refine wp_iinc (v := 1) (ls' := [(7, .int (v7 + 1)), (0, .ref 310), (1, .int k1), (2, .int k2), (3, .int k3), (4, .int k4), (5, .int k5), (6, .int v6)]) dX11_isEnough_101 rfl (by decide) (Nat.le_of_ble_eq_true rfl) rfl ?_
        refine wp_goto (tgt := 50) dX11_isEnough_104 (by decide) ?_
        exact wp_pick (ks := [1, 2, 3, 4, 5, 6, 7, 0]) rfl (ih _ _ _ h kx)
      · have h := ite_t hc7 h
        refine wp_aload_n dX11_isEnough_69 rfl rfl ?_
        refine wp_iload_n dX11_isEnough_70 rfl rfl ?_
        refine wp_iload dX11_isEnough_71 rfl ?_
        obtain ⟨r8, hF9, h⟩ := obi h
        refine wp_callVi (ci := 11) (As := [.int k1, .int v7]) dX11_isEnough_73 lbX11_wayBits mlX11_226 imX11_wayBits seX11_wayBits vc11 (ct_X11_wayBits N 0 (Nat.le_refl _) hS  hF9) rfl rfl (Nat.le_trans (by decide) hd) (sk310 hS) (sn310 hS) (Nat.le_of_ble_eq_true rfl) (fun _ => ?_)
        refine wp_iload dX11_isEnough_76 rfl ?_
        refine wp_ishr dX11_isEnough_78 ?_
        refine wp_iconst (v := 1) dX11_isEnough_79 (by decide) ?_
        refine wp_iand dX11_isEnough_80 ?_
        refine wp_iconst (v := 1) dX11_isEnough_81 (by decide) ?_
        refine wp_icmp_ne (tgt := 101) dX11_isEnough_82 (by decide) (fun hc10 => ?_) (fun hc10 => ?_)
        · have h := ite_f hc10 h
          refine wp_iinc (v := 1) (ls' := [(7, .int (v7 + 1)), (0, .ref 310), (1, .int k1), (2, .int k2), (3, .int k3), (4, .int k4), (5, .int k5), (6, .int v6)]) dX11_isEnough_101 rfl (by decide) (Nat.le_of_ble_eq_true rfl) rfl ?_
          refine wp_goto (tgt := 50) dX11_isEnough_104 (by decide) ?_
          exact wp_pick (ks := [1, 2, 3, 4, 5, 6, 7, 0]) rfl (ih _ _ _ h kx)
        · have h := ite_t hc10 h
          refine wp_iload dX11_isEnough_85 rfl ?_
          refine wp_aload_n dX11_isEnough_87 rfl rfl ?_
          refine wp_getR dX11_isEnough_88 flX11_35 rfl (sk310 hS) (sn310 hS) (sr310_23 hS) ?_
          refine wp_iload_n dX11_isEnough_91 rfl rfl ?_
          refine wp_iconst (v := 1) dX11_isEnough_92 (by decide) ?_
          refine wp_iadd dX11_isEnough_93 ?_
          refine wp_iload dX11_isEnough_94 rfl ?_
          refine wp_iadd dX11_isEnough_96 ?_
          obtain ⟨hb11, h⟩ := ck_inv h
          refine wp_iald dX11_isEnough_97 (sk317 hS) (sn317 hS) hb11 ?_
          refine wp_isub dX11_isEnough_98 ?_
          refine wp_istore (ls' := [(6, .int (v6 - (I 317 ((k1 + 1) + v7).toNatClampNeg))), (0, .ref 310), (1, .int k1), (2, .int k2), (3, .int k3), (4, .int k4), (5, .int k5), (7, .int v7)]) dX11_isEnough_99 (Nat.le_of_ble_eq_true rfl) rfl ?_
          refine wp_iinc (v := 1) (ls' := [(7, .int (v7 + 1)), (6, .int (v6 - (I 317 ((k1 + 1) + v7).toNatClampNeg))), (0, .ref 310), (1, .int k1), (2, .int k2), (3, .int k3), (4, .int k4), (5, .int k5)]) dX11_isEnough_101 rfl (by decide) (Nat.le_of_ble_eq_true rfl) rfl ?_
          refine wp_goto (tgt := 50) dX11_isEnough_104 (by decide) ?_
          exact wp_pick (ks := [2, 3, 4, 5, 6, 7, 1, 0]) rfl (ih _ _ _ h kx)
set_option maxHeartbeats 4000000 in
set_option maxRecDepth 100000 in
theorem wX11_isEnough_3 (N : Nat) (d : Nat) (hd : 3 ≤ d) {S : gS} {J : gJ} (hS : Sh S)  (k1 : Int32) (k2 : Int32) (k3 : Int32) (I : gI) {Q : gO → gS → gI → gJ → Prop} :
    ∀ (n : Nat) (v4 : Int32) (res : (Unit) ⊕ (Int32)), mX11_isEnough_3 N k1 k2 k3 I n v4 = some res → (res = Sum.inl () → Wp RX11 cX11_isEnough 8 (some .boolean) [] hF d 0 0 131 [] [] S I J Q) → (∀ (r : Int32), res = Sum.inr r → Q (.inl (some (.int r))) S I J) → Wp RX11 cX11_isEnough 8 (some .boolean) [] hF d 0 0 3 [(0, .ref 310), (1, .int k1), (2, .int k2), (3, .int k3), (4, .int v4)] [] S I J Q := by
  intro n
  induction n with
  | zero => intro v4 res h; exact nso h
  | succ n ih =>
    intro v4 res h kx kr
    rw [mX11_isEnough_3] at h
    refine wp_iload dX11_isEnough_3 rfl ?_
    refine wp_aload_n dX11_isEnough_5 rfl rfl ?_
    refine wp_getR dX11_isEnough_6 flX11_35 rfl (sk310 hS) (sn310 hS) (sr310_23 hS) ?_
    refine wp_iload_n dX11_isEnough_9 rfl rfl ?_
    refine wp_bipush (v := 10) dX11_isEnough_10 (by decide) ?_
    refine wp_iadd dX11_isEnough_12 ?_
    refine wp_iload_n dX11_isEnough_13 rfl rfl ?_
    refine wp_iadd dX11_isEnough_14 ?_
    obtain ⟨hb1, h⟩ := ck_inv h
    refine wp_iald dX11_isEnough_15 (sk317 hS) (sn317 hS) hb1 ?_
    refine wp_icmp_ge (tgt := 131) dX11_isEnough_16 (by decide) (fun hc2 => ?_) (fun hc2 => ?_)
    · have h := ite_t hc2 h
      exact wp_pick (ks := []) rfl (kx (sji h).symm)
    · have h := ite_f hc2 h
      refine wp_aload_n dX11_isEnough_19 rfl rfl ?_
      refine wp_getR dX11_isEnough_20 flX11_35 rfl (sk310 hS) (sn310 hS) (sr310_23 hS) ?_
      refine wp_iload_n dX11_isEnough_23 rfl rfl ?_
      refine wp_bipush (v := 19) dX11_isEnough_24 (by decide) ?_
      refine wp_iadd dX11_isEnough_26 ?_
      refine wp_bipush (v := 7) dX11_isEnough_27 (by decide) ?_
      refine wp_iload_n dX11_isEnough_29 rfl rfl ?_
      refine wp_imul dX11_isEnough_30 ?_
      refine wp_iadd dX11_isEnough_31 ?_
      refine wp_iload dX11_isEnough_32 rfl ?_
      refine wp_iadd dX11_isEnough_34 ?_
      obtain ⟨hb3, h⟩ := ck_inv h
      refine wp_iald dX11_isEnough_35 (sk317 hS) (sn317 hS) hb3 ?_
      refine wp_istore (ls' := [(5, .int (I 317 (((k1 + 19) + (7 * k2)) + v4).toNatClampNeg)), (0, .ref 310), (1, .int k1), (2, .int k2), (3, .int k3), (4, .int v4)]) dX11_isEnough_36 (Nat.le_of_ble_eq_true rfl) rfl ?_
      refine wp_aload_n dX11_isEnough_38 rfl rfl ?_
      refine wp_iload_n dX11_isEnough_39 rfl rfl ?_
      refine wp_iload dX11_isEnough_40 rfl ?_
      obtain ⟨r4, hF5, h⟩ := obi h
      refine wp_callVi (ci := 11) (As := [.int k1, .int (I 317 (((k1 + 19) + (7 * k2)) + v4).toNatClampNeg)]) dX11_isEnough_42 lbX11_takenAt mlX11_269 imX11_takenAt seX11_takenAt vc11 (ct_X11_takenAt N 2 (Nat.le_refl _) hS  hF5) rfl rfl (Nat.le_trans (by decide) hd) (sk310 hS) (sn310 hS) (Nat.le_of_ble_eq_true rfl) (fun _ => ?_)
      refine wp_istore (ls' := [(6, .int r4), (5, .int (I 317 (((k1 + 19) + (7 * k2)) + v4).toNatClampNeg)), (0, .ref 310), (1, .int k1), (2, .int k2), (3, .int k3), (4, .int v4)]) dX11_isEnough_45 (Nat.le_of_ble_eq_true rfl) rfl ?_
      refine wp_iconst (v := 0) dX11_isEnough_47 (by decide) ?_
      refine wp_istore (ls' := [(7, .int 0), (6, .int r4), (5, .int (I 317 (((k1 + 19) + (7 * k2)) + v4).toNatClampNeg)), (0, .ref 310), (1, .int k1), (2, .int k2), (3, .int k3), (4, .int v4)]) dX11_isEnough_48 (Nat.le_of_ble_eq_true rfl) rfl ?_
      obtain ⟨y12, hL917, h⟩ := obi h
      refine wp_pick (ks := [3, 4, 5, 6, 7, 2, 1, 0]) rfl (wX11_isEnough_50 N d hd hS  k1 k2 k3 v4 (I 317 (((k1 + 19) + (7 * k2)) + v4).toNatClampNeg) I N r4 0 _ hL917 (fun _ e18 => ?_))
      cases e18
      refine wp_iload dX11_isEnough_107 rfl ?_
      refine wp_aload_n dX11_isEnough_109 rfl rfl ?_
      refine wp_getR dX11_isEnough_110 flX11_23 rfl (sk310 hS) (sn310 hS) (sr310_19 hS) ?_
      refine wp_iconst (v := 5) dX11_isEnough_113 (by decide) ?_
      refine wp_iload dX11_isEnough_114 rfl ?_
      refine wp_imul dX11_isEnough_116 ?_
      refine wp_iconst (v := 3) dX11_isEnough_117 (by decide) ?_
      refine wp_iadd dX11_isEnough_118 ?_
      obtain ⟨x13, hx14, h⟩ := nm_inv h
      refine wp_topi hx14 ?_
      obtain ⟨hb15, h⟩ := ck_inv h
      refine wp_iald dX11_isEnough_119 (sk313 hS) (sn313 hS) hb15 ?_
      refine wp_icmp_le (tgt := 125) dX11_isEnough_120 (by decide) (fun hc16 => ?_) (fun hc16 => ?_)
      · have h := ite_t hc16 h
        refine wp_iinc (v := 1) (ls' := [(4, .int (v4 + 1)), (0, .ref 310), (1, .int k1), (2, .int k2), (3, .int k3), (5, .int (I 317 (((k1 + 19) + (7 * k2)) + v4).toNatClampNeg)), (6, .int y12)]) dX11_isEnough_125 rfl (by decide) (Nat.le_of_ble_eq_true rfl) rfl ?_
        refine wp_goto (tgt := 3) dX11_isEnough_128 (by decide) ?_
        exact wp_pick (ks := [1, 2, 3, 4, 0]) rfl (ih _ _ h kx kr)
      · have h := ite_f hc16 h
        refine wp_iconst (v := 0) dX11_isEnough_123 (by decide) ?_
        exact wp_zret dX11_isEnough_124 rfl (by decide) (kr _ (sji h).symm)
set_option maxHeartbeats 4000000 in
set_option maxRecDepth 100000 in
theorem ct_X11_isEnough (N : Nat) (d : Nat) (hd : 3 ≤ d) {S : gS} {J : gJ} (hS : Sh S)  {a2 : Int32} {a3 : Int32} {a4 : Int32} {I : gI} {r : Int32} (h : mX11_isEnough N a2 a3 a4 I = some r) : Ct yX11_isEnough (wsY yX11_isEnough cX11_isEnough 8 (some .boolean)) d 0 0 [.ref 310, .int a2, .int a3, .int a4] S I J (qE (.inl (some (.int r))) S I J) := by
  refine Ct.of hF (fun _ _ _ _ _ => trivial) (by decide +kernel) (Nat.le_of_ble_eq_true rfl) ⟨Or.inl (sn310 hS), trivial, trivial, trivial, trivial⟩ ?_
  show Wp RX11 cX11_isEnough 8 (some .boolean) [] hF d 0 0 0 [(0, .ref 310), (1, .int a2), (2, .int a3), (3, .int a4)] [] S I J _
  unfold mX11_isEnough at h
  refine wp_iconst (v := 0) dX11_isEnough_0 (by decide) ?_
  refine wp_istore (ls' := [(4, .int 0), (0, .ref 310), (1, .int a2), (2, .int a3), (3, .int a4)]) dX11_isEnough_1 (Nat.le_of_ble_eq_true rfl) rfl ?_
  rcases lbi h with ⟨⟨⟩, hL919, h⟩ | ⟨r21, hL919, h⟩
  · refine wp_pick (ks := [1, 2, 3, 4, 0]) rfl (wX11_isEnough_3 N d hd hS  a2 a3 a4 I N 0 _ hL919 (fun  e20 => ?_) (fun _ e9 => by cases e9))
    cases e20
    refine wp_iconst (v := 1) dX11_isEnough_131 (by decide) ?_
    exact wp_zret dX11_isEnough_132 rfl (by decide) (by obtain rfl := sji h; exact ⟨rfl, rfl, rfl, rfl⟩)
  · refine wp_pick (ks := [1, 2, 3, 4, 0]) rfl (wX11_isEnough_3 N d hd hS  a2 a3 a4 I N 0 _ hL919 (fun  e9 => by cases e9) (fun _ e20 => ?_))
    cases e20
    exact (by obtain rfl := sji h; exact ⟨rfl, rfl, rfl, rfl⟩)
def mX11_harm_4 (k1 : Int32) (I : gI) : Nat → Int32 → Int32 → Option (Int32)
  | 0, _, _ => none
  | n + 1, v2, v3 => if (I 310 15) ≤ v3 then (some v2) else (Option.bind (mX11_holdOf v3 I) (fun r2 => mX11_harm_4 k1 I n (v2 + (((k1 >>> (v3 &&& 31)) &&& 1) * (8 - r2))) (v3 + 1)))
def mX11_harm (N : Nat) (a2 : Int32) (I : gI) : Option (Int32) := Option.bind (mX11_harm_4 a2 I N 0 0) (fun y4 => some y4)
set_option maxHeartbeats 4000000 in
set_option maxRecDepth 100000 in
theorem wX11_harm_4 (d : Nat) (hd : 1 ≤ d) {S : gS} {J : gJ} (hS : Sh S)  (k1 : Int32) (I : gI) {Q : gO → gS → gI → gJ → Prop} :
    ∀ (n : Nat) (v2 : Int32) (v3 : Int32) (res : Int32), mX11_harm_4 k1 I n v2 v3 = some res → (∀ (o2 : Int32), res = o2 → Wp RX11 cX11_harm 4 (some .int) [] hF d 0 0 35 [(2, .int o2)] [] S I J Q) → Wp RX11 cX11_harm 4 (some .int) [] hF d 0 0 4 [(0, .ref 310), (1, .int k1), (2, .int v2), (3, .int v3)] [] S I J Q := by
  intro n
  induction n with
  | zero => intro v2 v3 res h; exact nso h
  | succ n ih =>
    intro v2 v3 res h kx
    rw [mX11_harm_4] at h
    refine wp_iload_n dX11_harm_4 rfl rfl ?_
    refine wp_aload_n dX11_harm_5 rfl rfl ?_
    refine wp_getI dX11_harm_6 flX11_202 rfl (sk310 hS) (sn310 hS) ?_
    refine wp_icmp_ge (tgt := 35) dX11_harm_9 (by decide) (fun hc1 => ?_) (fun hc1 => ?_)
    · have h := ite_t hc1 h
      exact wp_pick (ks := [2]) rfl (kx _ (sji h).symm)
    · have h := ite_f hc1 h
      refine wp_iload_n dX11_harm_12 rfl rfl ?_
      refine wp_iload_n dX11_harm_13 rfl rfl ?_
      refine wp_iload_n dX11_harm_14 rfl rfl ?_
      refine wp_ishr dX11_harm_15 ?_
      refine wp_iconst (v := 1) dX11_harm_16 (by decide) ?_
      refine wp_iand dX11_harm_17 ?_
      refine wp_bipush (v := 8) dX11_harm_18 (by decide) ?_
      refine wp_aload_n dX11_harm_20 rfl rfl ?_
      refine wp_iload_n dX11_harm_21 rfl rfl ?_
      obtain ⟨r2, hF3, h⟩ := obi h
      refine wp_callVi (ci := 11) (As := [.int v3]) dX11_harm_22 lbX11_holdOf mlX11_223 imX11_holdOf seX11_holdOf vc11 (ct_X11_holdOf 0 (Nat.le_refl _) hS  hF3) rfl rfl (Nat.le_trans (by decide) hd) (sk310 hS) (sn310 hS) (Nat.le_of_ble_eq_true rfl) (fun _ => ?_)
      refine wp_isub dX11_harm_25 ?_
      refine wp_imul dX11_harm_26 ?_
      refine wp_iadd dX11_harm_27 ?_
      refine wp_istore_n (ls' := [(2, .int (v2 + (((k1 >>> (v3 &&& 31)) &&& 1) * (8 - r2)))), (0, .ref 310), (1, .int k1), (3, .int v3)]) dX11_harm_28 rfl (Nat.le_of_ble_eq_true rfl) rfl ?_
      refine wp_iinc (v := 1) (ls' := [(3, .int (v3 + 1)), (2, .int (v2 + (((k1 >>> (v3 &&& 31)) &&& 1) * (8 - r2)))), (0, .ref 310), (1, .int k1)]) dX11_harm_29 rfl (by decide) (Nat.le_of_ble_eq_true rfl) rfl ?_
      refine wp_goto (tgt := 4) dX11_harm_32 (by decide) ?_
      exact wp_pick (ks := [2, 3, 1, 0]) rfl (ih _ _ _ h kx)
set_option maxHeartbeats 4000000 in
set_option maxRecDepth 100000 in
theorem ct_X11_harm (N : Nat) (d : Nat) (hd : 1 ≤ d) {S : gS} {J : gJ} (hS : Sh S)  {a2 : Int32} {I : gI} {r : Int32} (h : mX11_harm N a2 I = some r) : Ct yX11_harm (wsY yX11_harm cX11_harm 4 (some .int)) d 0 0 [.ref 310, .int a2] S I J (qE (.inl (some (.int r))) S I J) := by
  refine Ct.of hF (fun _ _ _ _ _ => trivial) (by decide +kernel) (Nat.le_of_ble_eq_true rfl) ⟨Or.inl (sn310 hS), trivial, trivial⟩ ?_
  show Wp RX11 cX11_harm 4 (some .int) [] hF d 0 0 0 [(0, .ref 310), (1, .int a2)] [] S I J _
  unfold mX11_harm at h
  refine wp_iconst (v := 0) dX11_harm_0 (by decide) ?_
  refine wp_istore_n (ls' := [(2, .int 0), (0, .ref 310), (1, .int a2)]) dX11_harm_1 rfl (Nat.le_of_ble_eq_true rfl) rfl ?_
  refine wp_iconst (v := 0) dX11_harm_2 (by decide) ?_
  refine wp_istore_n (ls' := [(3, .int 0), (2, .int 0), (0, .ref 310), (1, .int a2)]) dX11_harm_3 rfl (Nat.le_of_ble_eq_true rfl) rfl ?_
  obtain ⟨y4, hL95, h⟩ := obi h
  refine wp_pick (ks := [2, 3, 1, 0]) rfl (wX11_harm_4 d hd hS  a2 I N 0 0 _ hL95 (fun _ e6 => ?_))
  cases e6
  refine wp_iload_n dX11_harm_35 rfl rfl ?_
  exact wp_iret dX11_harm_36 rfl (by obtain rfl := sji h; exact ⟨rfl, rfl, rfl, rfl⟩)
def mX11_bandOf_5 (k1 : Int32) (k2 : Int32) (I : gI) : Nat → Int32 → Int32 → Option (Int32)
  | 0, _, _ => none
  | n + 1, v3, v4 => if (I 310 15) ≤ v4 then (some v3) else (ck ((k1 + 1) + v4) 164 (nm (((k2 >>> (v4 &&& 31)) &&& 1) * (I 317 ((k1 + 1) + v4).toNatClampNeg)) (fun x3 => mX11_bandOf_5 k1 k2 I n (v3 + x3) (v4 + 1))))
def mX11_bandOf (N : Nat) (a2 : Int32) (a3 : Int32) (I : gI) : Option (Int32) := Option.bind (mX11_bandOf_5 a2 a3 I N 0 0) (fun y5 => some y5)
set_option maxHeartbeats 4000000 in
set_option maxRecDepth 100000 in
theorem wX11_bandOf_5 (d : Nat) (hd : 0 ≤ d) {S : gS} {J : gJ} (hS : Sh S)  (k1 : Int32) (k2 : Int32) (I : gI) {Q : gO → gS → gI → gJ → Prop} :
    ∀ (n : Nat) (v3 : Int32) (v4 : Int32) (res : Int32), mX11_bandOf_5 k1 k2 I n v3 v4 = some res → (∀ (o3 : Int32), res = o3 → Wp RX11 cX11_bandOf 5 (some .int) [] hF d 0 0 41 [(3, .int o3)] [] S I J Q) → Wp RX11 cX11_bandOf 5 (some .int) [] hF d 0 0 5 [(0, .ref 310), (1, .int k1), (2, .int k2), (3, .int v3), (4, .int v4)] [] S I J Q := by
  intro n
  induction n with
  | zero => intro v3 v4 res h; exact nso h
  | succ n ih =>
    intro v3 v4 res h kx
    rw [mX11_bandOf_5] at h
    refine wp_iload dX11_bandOf_5 rfl ?_
    refine wp_aload_n dX11_bandOf_7 rfl rfl ?_
    refine wp_getI dX11_bandOf_8 flX11_202 rfl (sk310 hS) (sn310 hS) ?_
    refine wp_icmp_ge (tgt := 41) dX11_bandOf_11 (by decide) (fun hc1 => ?_) (fun hc1 => ?_)
    · have h := ite_t hc1 h
      exact wp_pick (ks := [3]) rfl (kx _ (sji h).symm)
    · have h := ite_f hc1 h
      refine wp_iload_n dX11_bandOf_14 rfl rfl ?_
      refine wp_iload_n dX11_bandOf_15 rfl rfl ?_
      refine wp_iload dX11_bandOf_16 rfl ?_
      refine wp_ishr dX11_bandOf_18 ?_
      refine wp_iconst (v := 1) dX11_bandOf_19 (by decide) ?_
      refine wp_iand dX11_bandOf_20 ?_
      refine wp_aload_n dX11_bandOf_21 rfl rfl ?_
      refine wp_getR dX11_bandOf_22 flX11_35 rfl (sk310 hS) (sn310 hS) (sr310_23 hS) ?_
      refine wp_iload_n dX11_bandOf_25 rfl rfl ?_
      refine wp_iconst (v := 1) dX11_bandOf_26 (by decide) ?_
      refine wp_iadd dX11_bandOf_27 ?_
      refine wp_iload dX11_bandOf_28 rfl ?_
      refine wp_iadd dX11_bandOf_30 ?_
      obtain ⟨hb2, h⟩ := ck_inv h
      refine wp_iald dX11_bandOf_31 (sk317 hS) (sn317 hS) hb2 ?_
      refine wp_imul dX11_bandOf_32 ?_
      obtain ⟨x3, hx4, h⟩ := nm_inv h
      refine wp_topi hx4 ?_
      refine wp_iadd dX11_bandOf_33 ?_
      refine wp_istore_n (ls' := [(3, .int (v3 + x3)), (0, .ref 310), (1, .int k1), (2, .int k2), (4, .int v4)]) dX11_bandOf_34 rfl (Nat.le_of_ble_eq_true rfl) rfl ?_
      refine wp_iinc (v := 1) (ls' := [(4, .int (v4 + 1)), (3, .int (v3 + x3)), (0, .ref 310), (1, .int k1), (2, .int k2)]) dX11_bandOf_35 rfl (by decide) (Nat.le_of_ble_eq_true rfl) rfl ?_
      refine wp_goto (tgt := 5) dX11_bandOf_38 (by decide) ?_
      exact wp_pick (ks := [2, 3, 4, 1, 0]) rfl (ih _ _ _ h kx)
set_option maxHeartbeats 4000000 in
set_option maxRecDepth 100000 in
theorem ct_X11_bandOf (N : Nat) (d : Nat) (hd : 0 ≤ d) {S : gS} {J : gJ} (hS : Sh S)  {a2 : Int32} {a3 : Int32} {I : gI} {r : Int32} (h : mX11_bandOf N a2 a3 I = some r) : Ct yX11_bandOf (wsY yX11_bandOf cX11_bandOf 5 (some .int)) d 0 0 [.ref 310, .int a2, .int a3] S I J (qE (.inl (some (.int r))) S I J) := by
  refine Ct.of hF (fun _ _ _ _ _ => trivial) (by decide +kernel) (Nat.le_of_ble_eq_true rfl) ⟨Or.inl (sn310 hS), trivial, trivial, trivial⟩ ?_
  show Wp RX11 cX11_bandOf 5 (some .int) [] hF d 0 0 0 [(0, .ref 310), (1, .int a2), (2, .int a3)] [] S I J _
  unfold mX11_bandOf at h
  refine wp_iconst (v := 0) dX11_bandOf_0 (by decide) ?_
  refine wp_istore_n (ls' := [(3, .int 0), (0, .ref 310), (1, .int a2), (2, .int a3)]) dX11_bandOf_1 rfl (Nat.le_of_ble_eq_true rfl) rfl ?_
  refine wp_iconst (v := 0) dX11_bandOf_2 (by decide) ?_
  refine wp_istore (ls' := [(4, .int 0), (3, .int 0), (0, .ref 310), (1, .int a2), (2, .int a3)]) dX11_bandOf_3 (Nat.le_of_ble_eq_true rfl) rfl ?_
  obtain ⟨y5, hL96, h⟩ := obi h
  refine wp_pick (ks := [2, 3, 4, 1, 0]) rfl (wX11_bandOf_5 d hd hS  a2 a3 I N 0 0 _ hL96 (fun _ e7 => ?_))
  cases e7
  refine wp_iload_n dX11_bandOf_41 rfl rfl ?_
  exact wp_iret dX11_bandOf_42 rfl (by obtain rfl := sji h; exact ⟨rfl, rfl, rfl, rfl⟩)
def mX11_isLess (N : Nat) (a2 : Int32) (a3 : Int32) (a4 : Int32) (I : gI) : Option (Int32) := Option.bind (mX11_harm N a3 I) (fun r1 => Option.bind (mX11_harm N a4 I) (fun r3 => if r1 = r3 then (Option.bind (mX11_bits N a3 I) (fun r6 => Option.bind (mX11_bits N a4 I) (fun r8 => if r6 = r8 then (Option.bind (mX11_bandOf N a2 a3 I) (fun r11 => Option.bind (mX11_bandOf N a2 a4 I) (fun r13 => if r13 ≤ r11 then (some 0) else (some 1)))) else (Option.bind (mX11_bits N a3 I) (fun r16 => Option.bind (mX11_bits N a4 I) (fun r18 => if r18 ≤ r16 then (some 0) else (some 1))))))) else (Option.bind (mX11_harm N a3 I) (fun r21 => Option.bind (mX11_harm N a4 I) (fun r23 => if r23 ≤ r21 then (some 0) else (some 1))))))
set_option maxHeartbeats 4000000 in
set_option maxRecDepth 100000 in
theorem ct_X11_isLess (N : Nat) (d : Nat) (hd : 2 ≤ d) {S : gS} {J : gJ} (hS : Sh S)  {a2 : Int32} {a3 : Int32} {a4 : Int32} {I : gI} {r : Int32} (h : mX11_isLess N a2 a3 a4 I = some r) : Ct yX11_isLess (wsY yX11_isLess cX11_isLess 4 (some .boolean)) d 0 0 [.ref 310, .int a2, .int a3, .int a4] S I J (qE (.inl (some (.int r))) S I J) := by
  refine Ct.of hF (fun _ _ _ _ _ => trivial) (by decide +kernel) (Nat.le_of_ble_eq_true rfl) ⟨Or.inl (sn310 hS), trivial, trivial, trivial, trivial⟩ ?_
  show Wp RX11 cX11_isLess 4 (some .boolean) [] hF d 0 0 0 [(0, .ref 310), (1, .int a2), (2, .int a3), (3, .int a4)] [] S I J _
  unfold mX11_isLess at h
  refine wp_aload_n dX11_isLess_0 rfl rfl ?_
  refine wp_iload_n dX11_isLess_1 rfl rfl ?_
  obtain ⟨r1, hF2, h⟩ := obi h
  refine wp_callVi (ci := 11) (As := [.int a3]) dX11_isLess_2 lbX11_harm mlX11_272 imX11_harm seX11_harm vc11 (ct_X11_harm N 1 (Nat.le_refl _) hS  hF2) rfl rfl (Nat.le_trans (by decide) hd) (sk310 hS) (sn310 hS) (Nat.le_of_ble_eq_true rfl) (fun _ => ?_)
  refine wp_aload_n dX11_isLess_5 rfl rfl ?_
  refine wp_iload_n dX11_isLess_6 rfl rfl ?_
  obtain ⟨r3, hF4, h⟩ := obi h
  refine wp_callVi (ci := 11) (As := [.int a4]) dX11_isLess_7 lbX11_harm mlX11_272 imX11_harm seX11_harm vc11 (ct_X11_harm N 1 (Nat.le_refl _) hS  hF4) rfl rfl (Nat.le_trans (by decide) hd) (sk310 hS) (sn310 hS) (Nat.le_of_ble_eq_true rfl) (fun _ => ?_)
  refine wp_icmp_eq (tgt := 32) dX11_isLess_10 (by decide) (fun hc5 => ?_) (fun hc5 => ?_)
  · have h := ite_t hc5 h
    refine wp_iload_n dX11_isLess_32 rfl rfl ?_
    obtain ⟨r6, hF7, h⟩ := obi h
    refine wp_callSi (As := [.int a3]) dX11_isLess_33 lbX11_bits mlX11_275 smX11_bits (ct_X11_bits N 0 (Nat.le_refl _) hS  hF7) rfl rfl (Nat.le_trans (by decide) hd) (Nat.le_of_ble_eq_true rfl) (fun _ => ?_)
    refine wp_iload_n dX11_isLess_36 rfl rfl ?_
    obtain ⟨r8, hF9, h⟩ := obi h
    refine wp_callSi (As := [.int a4]) dX11_isLess_37 lbX11_bits mlX11_275 smX11_bits (ct_X11_bits N 0 (Nat.le_refl _) hS  hF9) rfl rfl (Nat.le_trans (by decide) hd) (Nat.le_of_ble_eq_true rfl) (fun _ => ?_)
    refine wp_icmp_eq (tgt := 60) dX11_isLess_40 (by decide) (fun hc10 => ?_) (fun hc10 => ?_)
    · have h := ite_t hc10 h
      refine wp_aload_n dX11_isLess_60 rfl rfl ?_
      refine wp_iload_n dX11_isLess_61 rfl rfl ?_
      refine wp_iload_n dX11_isLess_62 rfl rfl ?_
      obtain ⟨r11, hF12, h⟩ := obi h
      refine wp_callVi (ci := 11) (As := [.int a2, .int a3]) dX11_isLess_63 lbX11_bandOf mlX11_278 imX11_bandOf seX11_bandOf vc11 (ct_X11_bandOf N 0 (Nat.le_refl _) hS  hF12) rfl rfl (Nat.le_trans (by decide) hd) (sk310 hS) (sn310 hS) (Nat.le_of_ble_eq_true rfl) (fun _ => ?_)
      refine wp_aload_n dX11_isLess_66 rfl rfl ?_
      refine wp_iload_n dX11_isLess_67 rfl rfl ?_
      refine wp_iload_n dX11_isLess_68 rfl rfl ?_
      obtain ⟨r13, hF14, h⟩ := obi h
      refine wp_callVi (ci := 11) (As := [.int a2, .int a4]) dX11_isLess_69 lbX11_bandOf mlX11_278 imX11_bandOf seX11_bandOf vc11 (ct_X11_bandOf N 0 (Nat.le_refl _) hS  hF14) rfl rfl (Nat.le_trans (by decide) hd) (sk310 hS) (sn310 hS) (Nat.le_of_ble_eq_true rfl) (fun _ => ?_)
      refine wp_icmp_ge (tgt := 79) dX11_isLess_72 (by decide) (fun hc15 => ?_) (fun hc15 => ?_)
      · have h := ite_t hc15 h
        refine wp_iconst (v := 0) dX11_isLess_79 (by decide) ?_
        exact wp_zret dX11_isLess_80 rfl (by decide) (by obtain rfl := sji h; exact ⟨rfl, rfl, rfl, rfl⟩)
      · have h := ite_f hc15 h
        refine wp_iconst (v := 1) dX11_isLess_75 (by decide) ?_
        refine wp_goto (tgt := 80) dX11_isLess_76 (by decide) ?_
        exact wp_zret dX11_isLess_80 rfl (by decide) (by obtain rfl := sji h; exact ⟨rfl, rfl, rfl, rfl⟩)
    · have h := ite_f hc10 h
      refine wp_iload_n dX11_isLess_43 rfl rfl ?_
      obtain ⟨r16, hF17, h⟩ := obi h
      refine wp_callSi (As := [.int a3]) dX11_isLess_44 lbX11_bits mlX11_275 smX11_bits (ct_X11_bits N 0 (Nat.le_refl _) hS  hF17) rfl rfl (Nat.le_trans (by decide) hd) (Nat.le_of_ble_eq_true rfl) (fun _ => ?_)
      refine wp_iload_n dX11_isLess_47 rfl rfl ?_
      obtain ⟨r18, hF19, h⟩ := obi h
      refine wp_callSi (As := [.int a4]) dX11_isLess_48 lbX11_bits mlX11_275 smX11_bits (ct_X11_bits N 0 (Nat.le_refl _) hS  hF19) rfl rfl (Nat.le_trans (by decide) hd) (Nat.le_of_ble_eq_true rfl) (fun _ => ?_)
      refine wp_icmp_ge (tgt := 58) dX11_isLess_51 (by decide) (fun hc20 => ?_) (fun hc20 => ?_)
      · have h := ite_t hc20 h
        refine wp_iconst (v := 0) dX11_isLess_58 (by decide) ?_
        exact wp_zret dX11_isLess_59 rfl (by decide) (by obtain rfl := sji h; exact ⟨rfl, rfl, rfl, rfl⟩)
      · have h := ite_f hc20 h
        refine wp_iconst (v := 1) dX11_isLess_54 (by decide) ?_
        refine wp_goto (tgt := 59) dX11_isLess_55 (by decide) ?_
        exact wp_zret dX11_isLess_59 rfl (by decide) (by obtain rfl := sji h; exact ⟨rfl, rfl, rfl, rfl⟩)
  · have h := ite_f hc5 h
    refine wp_aload_n dX11_isLess_13 rfl rfl ?_
    refine wp_iload_n dX11_isLess_14 rfl rfl ?_
    obtain ⟨r21, hF22, h⟩ := obi h
    refine wp_callVi (ci := 11) (As := [.int a3]) dX11_isLess_15 lbX11_harm mlX11_272 imX11_harm seX11_harm vc11 (ct_X11_harm N 1 (Nat.le_refl _) hS  hF22) rfl rfl (Nat.le_trans (by decide) hd) (sk310 hS) (sn310 hS) (Nat.le_of_ble_eq_true rfl) (fun _ => ?_)
    refine wp_aload_n dX11_isLess_18 rfl rfl ?_
    refine wp_iload_n dX11_isLess_19 rfl rfl ?_
    obtain ⟨r23, hF24, h⟩ := obi h
    refine wp_callVi (ci := 11) (As := [.int a4]) dX11_isLess_20 lbX11_harm mlX11_272 imX11_harm seX11_harm vc11 (ct_X11_harm N 1 (Nat.le_refl _) hS  hF24) rfl rfl (Nat.le_trans (by decide) hd) (sk310 hS) (sn310 hS) (Nat.le_of_ble_eq_true rfl) (fun _ => ?_)
    refine wp_icmp_ge (tgt := 30) dX11_isLess_23 (by decide) (fun hc25 => ?_) (fun hc25 => ?_)
    · have h := ite_t hc25 h
      refine wp_iconst (v := 0) dX11_isLess_30 (by decide) ?_
      exact wp_zret dX11_isLess_31 rfl (by decide) (by obtain rfl := sji h; exact ⟨rfl, rfl, rfl, rfl⟩)
    · have h := ite_f hc25 h
      refine wp_iconst (v := 1) dX11_isLess_26 (by decide) ?_
      refine wp_goto (tgt := 31) dX11_isLess_27 (by decide) ?_
      exact wp_zret dX11_isLess_31 rfl (by decide) (by obtain rfl := sji h; exact ⟨rfl, rfl, rfl, rfl⟩)
def mX11_pushedBy_5 (k1 : Int32) (k2 : Int32) (I : gI) : Nat → Int32 → Int32 → Option (Int32)
  | 0, _, _ => none
  | n + 1, v3, v4 => if (I 310 15) ≤ v4 then (some v3) else (Option.bind (mX11_doesStand k1 v4 I) (fun r2 => if r2 = 0 then (mX11_pushedBy_5 k1 k2 I n (v3 ||| 0) (v4 + 1)) else (Option.bind (mX11_holdOf v4 I) (fun r5 => Option.bind (mX11_setupOf k2 I) (fun r7 => if r5 ≤ r7 then (mX11_pushedBy_5 k1 k2 I n (v3 ||| 0) (v4 + 1)) else (mX11_pushedBy_5 k1 k2 I n (v3 ||| ((1 : Int32) <<< (v4 &&& 31))) (v4 + 1)))))))
def mX11_pushedBy_61 (N : Nat) (k1 : Int32) (k2 : Int32) (k3 : Int32) (I : gI) : Nat → Int32 → Int32 → Option (Int32)
  | 0, _, _ => none
  | n + 1, v4, v5 => if ((1 : Int32) <<< ((I 310 15) &&& 31)) ≤ v5 then (some v4) else (if (v5 &&& (k3 ^^^ (-1))) = 0 then (Option.bind (mX11_isEnough N k1 k2 v5 I) (fun r13 => if r13 = 0 then (mX11_pushedBy_61 N k1 k2 k3 I n v4 (v5 + 1)) else (if v4 = (-1) then (mX11_pushedBy_61 N k1 k2 k3 I n v5 (v5 + 1)) else (Option.bind (mX11_isLess N k1 v5 v4 I) (fun r17 => if r17 = 0 then (mX11_pushedBy_61 N k1 k2 k3 I n v4 (v5 + 1)) else (mX11_pushedBy_61 N k1 k2 k3 I n v5 (v5 + 1))))))) else (mX11_pushedBy_61 N k1 k2 k3 I n v4 (v5 + 1)))
def mX11_pushedBy (N : Nat) (a2 : Int32) (a3 : Int32) (I : gI) : Option (Int32) := Option.bind (mX11_pushedBy_5 a2 a3 I N 0 0) (fun y10 => Option.bind (mX11_pushedBy_61 N a2 a3 y10 I N (-1) 0) (fun y20 => some y20))
set_option maxHeartbeats 4000000 in
set_option maxRecDepth 100000 in
theorem wX11_pushedBy_5 (d : Nat) (hd : 4 ≤ d) {S : gS} {J : gJ} (hS : Sh S)  (k1 : Int32) (k2 : Int32) (I : gI) {Q : gO → gS → gI → gJ → Prop} :
    ∀ (n : Nat) (v3 : Int32) (v4 : Int32) (res : Int32), mX11_pushedBy_5 k1 k2 I n v3 v4 = some res → (∀ (o3 : Int32), res = o3 → Wp RX11 cX11_pushedBy 6 (some .int) [] hF d 0 0 55 [(0, .ref 310), (1, .int k1), (2, .int k2), (3, .int o3)] [] S I J Q) → Wp RX11 cX11_pushedBy 6 (some .int) [] hF d 0 0 5 [(0, .ref 310), (1, .int k1), (2, .int k2), (3, .int v3), (4, .int v4)] [] S I J Q := by
  intro n
  induction n with
  | zero => intro v3 v4 res h; exact nso h
  | succ n ih =>
    intro v3 v4 res h kx
    rw [mX11_pushedBy_5] at h
    refine wp_iload dX11_pushedBy_5 rfl ?_
    refine wp_aload_n dX11_pushedBy_7 rfl rfl ?_
    refine wp_getI dX11_pushedBy_8 flX11_202 rfl (sk310 hS) (sn310 hS) ?_
    refine wp_icmp_ge (tgt := 55) dX11_pushedBy_11 (by decide) (fun hc1 => ?_) (fun hc1 => ?_)
    · have h := ite_t hc1 h
      exact wp_pick (ks := [0, 1, 2, 3]) rfl (kx _ (sji h).symm)
    · have h := ite_f hc1 h
      refine wp_iload_n dX11_pushedBy_14 rfl rfl ?_
      refine wp_aload_n dX11_pushedBy_15 rfl rfl ?_
      refine wp_iload_n dX11_pushedBy_16 rfl rfl ?_
      refine wp_iload dX11_pushedBy_17 rfl ?_
      obtain ⟨r2, hF3, h⟩ := obi h
      refine wp_callVi (ci := 11) (As := [.int k1, .int v4]) dX11_pushedBy_19 lbX11_doesStand mlX11_219 imX11_doesStand seX11_doesStand vc11 (ct_X11_doesStand 0 (Nat.le_refl _) hS  hF3) rfl rfl (Nat.le_trans (by decide) hd) (sk310 hS) (sn310 hS) (Nat.le_of_ble_eq_true rfl) (fun _ => ?_)
      refine wp_if_eq (tgt := 46) dX11_pushedBy_22 (by decide) (fun hc4 => ?_) (fun hc4 => ?_)
      · have h := ite_t hc4 h
        refine wp_iconst (v := 0) dX11_pushedBy_46 (by decide) ?_
        refine wp_ior dX11_pushedBy_47 ?_
        refine wp_istore_n (ls' := [(3, .int (v3 ||| 0)), (0, .ref 310), (1, .int k1), (2, .int k2), (4, .int v4)]) dX11_pushedBy_48 rfl (Nat.le_of_ble_eq_true rfl) rfl ?_
        refine wp_iinc (v := 1) (ls' := [(4, .int (v4 + 1)), (3, .int (v3 ||| 0)), (0, .ref 310), (1, .int k1), (2, .int k2)]) dX11_pushedBy_49 rfl (by decide) (Nat.le_of_ble_eq_true rfl) rfl ?_
        refine wp_goto (tgt := 5) dX11_pushedBy_52 (by decide) ?_
        exact wp_pick (ks := [2, 3, 4, 1, 0]) rfl (ih _ _ _ h kx)
      · have h := ite_f hc4 h
        refine wp_aload_n dX11_pushedBy_25 rfl rfl ?_
        refine wp_iload dX11_pushedBy_26 rfl ?_
        obtain ⟨r5, hF6, h⟩ := obi h
        refine wp_callVi (ci := 11) (As := [.int v4]) dX11_pushedBy_28 lbX11_holdOf mlX11_223 imX11_holdOf seX11_holdOf vc11 (ct_X11_holdOf 0 (Nat.le_refl _) hS  hF6) rfl rfl (Nat.le_trans (by decide) hd) (sk310 hS) (sn310 hS) (Nat.le_of_ble_eq_true rfl) (fun _ => ?_)
        refine wp_aload_n dX11_pushedBy_31 rfl rfl ?_
        refine wp_iload_n dX11_pushedBy_32 rfl rfl ?_
        obtain ⟨r7, hF8, h⟩ := obi h
        refine wp_callVi (ci := 11) (As := [.int k2]) dX11_pushedBy_33 lbX11_setupOf mlX11_258 imX11_setupOf seX11_setupOf vc11 (ct_X11_setupOf 0 (Nat.le_refl _) hS  hF8) rfl rfl (Nat.le_trans (by decide) hd) (sk310 hS) (sn310 hS) (Nat.le_of_ble_eq_true rfl) (fun _ => ?_)
        refine wp_icmp_le (tgt := 46) dX11_pushedBy_36 (by decide) (fun hc9 => ?_) (fun hc9 => ?_)
        · have h := ite_t hc9 h
          refine wp_iconst (v := 0) dX11_pushedBy_46 (by decide) ?_
          refine wp_ior dX11_pushedBy_47 ?_
          refine wp_istore_n (ls' := [(3, .int (v3 ||| 0)), (0, .ref 310), (1, .int k1), (2, .int k2), (4, .int v4)]) dX11_pushedBy_48 rfl (Nat.le_of_ble_eq_true rfl) rfl ?_
          refine wp_iinc (v := 1) (ls' := [(4, .int (v4 + 1)), (3, .int (v3 ||| 0)), (0, .ref 310), (1, .int k1), (2, .int k2)]) dX11_pushedBy_49 rfl (by decide) (Nat.le_of_ble_eq_true rfl) rfl ?_
          refine wp_goto (tgt := 5) dX11_pushedBy_52 (by decide) ?_
          exact wp_pick (ks := [2, 3, 4, 1, 0]) rfl (ih _ _ _ h kx)
        · have h := ite_f hc9 h
          refine wp_iconst (v := 1) dX11_pushedBy_39 (by decide) ?_
          refine wp_iload dX11_pushedBy_40 rfl ?_
          refine wp_ishl dX11_pushedBy_42 ?_
          refine wp_goto (tgt := 47) dX11_pushedBy_43 (by decide) ?_
          refine wp_ior dX11_pushedBy_47 ?_
          refine wp_istore_n (ls' := [(3, .int (v3 ||| ((1 : Int32) <<< (v4 &&& 31)))), (0, .ref 310), (1, .int k1), (2, .int k2), (4, .int v4)]) dX11_pushedBy_48 rfl (Nat.le_of_ble_eq_true rfl) rfl ?_
          refine wp_iinc (v := 1) (ls' := [(4, .int (v4 + 1)), (3, .int (v3 ||| ((1 : Int32) <<< (v4 &&& 31)))), (0, .ref 310), (1, .int k1), (2, .int k2)]) dX11_pushedBy_49 rfl (by decide) (Nat.le_of_ble_eq_true rfl) rfl ?_
          refine wp_goto (tgt := 5) dX11_pushedBy_52 (by decide) ?_
          exact wp_pick (ks := [2, 3, 4, 1, 0]) rfl (ih _ _ _ h kx)
set_option maxHeartbeats 4000000 in
set_option maxRecDepth 100000 in
theorem wX11_pushedBy_61 (N : Nat) (d : Nat) (hd : 4 ≤ d) {S : gS} {J : gJ} (hS : Sh S)  (k1 : Int32) (k2 : Int32) (k3 : Int32) (I : gI) {Q : gO → gS → gI → gJ → Prop} :
    ∀ (n : Nat) (v4 : Int32) (v5 : Int32) (res : Int32), mX11_pushedBy_61 N k1 k2 k3 I n v4 v5 = some res → (∀ (o4 : Int32), res = o4 → Wp RX11 cX11_pushedBy 6 (some .int) [] hF d 0 0 123 [(4, .int o4)] [] S I J Q) → Wp RX11 cX11_pushedBy 6 (some .int) [] hF d 0 0 61 [(0, .ref 310), (1, .int k1), (2, .int k2), (3, .int k3), (4, .int v4), (5, .int v5)] [] S I J Q := by
  intro n
  induction n with
  | zero => intro v4 v5 res h; exact nso h
  | succ n ih =>
    intro v4 v5 res h kx
    rw [mX11_pushedBy_61] at h
    refine wp_iload dX11_pushedBy_61 rfl ?_
    refine wp_iconst (v := 1) dX11_pushedBy_63 (by decide) ?_
    refine wp_aload_n dX11_pushedBy_64 rfl rfl ?_
    refine wp_getI dX11_pushedBy_65 flX11_202 rfl (sk310 hS) (sn310 hS) ?_
    refine wp_ishl dX11_pushedBy_68 ?_
    refine wp_icmp_ge (tgt := 123) dX11_pushedBy_69 (by decide) (fun hc11 => ?_) (fun hc11 => ?_)
    · have h := ite_t hc11 h
      exact wp_pick (ks := [4]) rfl (kx _ (sji h).symm)
    · have h := ite_f hc11 h
      refine wp_iload dX11_pushedBy_72 rfl ?_
      refine wp_iload_n dX11_pushedBy_74 rfl rfl ?_
      refine wp_iconst (v := (-1)) dX11_pushedBy_75 (by decide) ?_
      refine wp_ixor dX11_pushedBy_76 ?_
      refine wp_iand dX11_pushedBy_77 ?_
      refine wp_if_ne (tgt := 117) dX11_pushedBy_78 (by decide) (fun hc12 => ?_) (fun hc12 => ?_)
      · have h := ite_f hc12 h
        refine wp_iinc (v := 1) (ls' := [(5, .int (v5 + 1)), (0, .ref 310), (1, .int k1), (2, .int k2), (3, .int k3), (4, .int v4)]) dX11_pushedBy_117 rfl (by decide) (Nat.le_of_ble_eq_true rfl) rfl ?_
        refine wp_goto (tgt := 61) dX11_pushedBy_120 (by decide) ?_
        exact wp_pick (ks := [1, 2, 3, 4, 5, 0]) rfl (ih _ _ _ h kx)
      · have h := ite_t hc12 h
        refine wp_aload_n dX11_pushedBy_81 rfl rfl ?_
        refine wp_iload_n dX11_pushedBy_82 rfl rfl ?_
        refine wp_iload_n dX11_pushedBy_83 rfl rfl ?_
        refine wp_iload dX11_pushedBy_84 rfl ?_
        obtain ⟨r13, hF14, h⟩ := obi h
        refine wp_callVi (ci := 11) (As := [.int k1, .int k2, .int v5]) dX11_pushedBy_86 lbX11_isEnough mlX11_281 imX11_isEnough seX11_isEnough vc11 (ct_X11_isEnough N 3 (Nat.le_refl _) hS  hF14) rfl rfl (Nat.le_trans (by decide) hd) (sk310 hS) (sn310 hS) (Nat.le_of_ble_eq_true rfl) (fun _ => ?_)
        refine wp_if_ne (tgt := 95) dX11_pushedBy_89 (by decide) (fun hc15 => ?_) (fun hc15 => ?_)
        · have h := ite_f hc15 h
          refine wp_iload dX11_pushedBy_95 rfl ?_
          refine wp_iconst (v := (-1)) dX11_pushedBy_97 (by decide) ?_
          refine wp_icmp_eq (tgt := 113) dX11_pushedBy_98 (by decide) (fun hc16 => ?_) (fun hc16 => ?_)
          · have h := ite_t hc16 h
            refine wp_iload dX11_pushedBy_113 rfl ?_
            refine wp_istore (ls' := [(4, .int v5), (0, .ref 310), (1, .int k1), (2, .int k2), (3, .int k3), (5, .int v5)]) dX11_pushedBy_115 (Nat.le_of_ble_eq_true rfl) rfl ?_
            refine wp_iinc (v := 1) (ls' := [(5, .int (v5 + 1)), (4, .int v5), (0, .ref 310), (1, .int k1), (2, .int k2), (3, .int k3)]) dX11_pushedBy_117 rfl (by decide) (Nat.le_of_ble_eq_true rfl) rfl ?_
            refine wp_goto (tgt := 61) dX11_pushedBy_120 (by decide) ?_
            exact wp_pick (ks := [2, 3, 4, 5, 1, 0]) rfl (ih _ _ _ h kx)
          · have h := ite_f hc16 h
            refine wp_aload_n dX11_pushedBy_101 rfl rfl ?_
            refine wp_iload_n dX11_pushedBy_102 rfl rfl ?_
            refine wp_iload dX11_pushedBy_103 rfl ?_
            refine wp_iload dX11_pushedBy_105 rfl ?_
            obtain ⟨r17, hF18, h⟩ := obi h
            refine wp_callVi (ci := 11) (As := [.int k1, .int v5, .int v4]) dX11_pushedBy_107 lbX11_isLess mlX11_284 imX11_isLess seX11_isLess vc11 (ct_X11_isLess N 2 (Nat.le_refl _) hS  hF18) rfl rfl (Nat.le_trans (by decide) hd) (sk310 hS) (sn310 hS) (Nat.le_of_ble_eq_true rfl) (fun _ => ?_)
            refine wp_if_eq (tgt := 117) dX11_pushedBy_110 (by decide) (fun hc19 => ?_) (fun hc19 => ?_)
            · have h := ite_t hc19 h
              refine wp_iinc (v := 1) (ls' := [(5, .int (v5 + 1)), (0, .ref 310), (1, .int k1), (2, .int k2), (3, .int k3), (4, .int v4)]) dX11_pushedBy_117 rfl (by decide) (Nat.le_of_ble_eq_true rfl) rfl ?_
              refine wp_goto (tgt := 61) dX11_pushedBy_120 (by decide) ?_
              exact wp_pick (ks := [1, 2, 3, 4, 5, 0]) rfl (ih _ _ _ h kx)
            · have h := ite_f hc19 h
              refine wp_iload dX11_pushedBy_113 rfl ?_
              refine wp_istore (ls' := [(4, .int v5), (0, .ref 310), (1, .int k1), (2, .int k2), (3, .int k3), (5, .int v5)]) dX11_pushedBy_115 (Nat.le_of_ble_eq_true rfl) rfl ?_
              refine wp_iinc (v := 1) (ls' := [(5, .int (v5 + 1)), (4, .int v5), (0, .ref 310), (1, .int k1), (2, .int k2), (3, .int k3)]) dX11_pushedBy_117 rfl (by decide) (Nat.le_of_ble_eq_true rfl) rfl ?_
              refine wp_goto (tgt := 61) dX11_pushedBy_120 (by decide) ?_
              exact wp_pick (ks := [2, 3, 4, 5, 1, 0]) rfl (ih _ _ _ h kx)
        · have h := ite_t hc15 h
          refine wp_goto (tgt := 117) dX11_pushedBy_92 (by decide) ?_
          refine wp_iinc (v := 1) (ls' := [(5, .int (v5 + 1)), (0, .ref 310), (1, .int k1), (2, .int k2), (3, .int k3), (4, .int v4)]) dX11_pushedBy_117 rfl (by decide) (Nat.le_of_ble_eq_true rfl) rfl ?_
          refine wp_goto (tgt := 61) dX11_pushedBy_120 (by decide) ?_
          exact wp_pick (ks := [1, 2, 3, 4, 5, 0]) rfl (ih _ _ _ h kx)
set_option maxHeartbeats 4000000 in
set_option maxRecDepth 100000 in
theorem ct_X11_pushedBy (N : Nat) (d : Nat) (hd : 4 ≤ d) {S : gS} {J : gJ} (hS : Sh S)  {a2 : Int32} {a3 : Int32} {I : gI} {r : Int32} (h : mX11_pushedBy N a2 a3 I = some r) : Ct yX11_pushedBy (wsY yX11_pushedBy cX11_pushedBy 6 (some .int)) d 0 0 [.ref 310, .int a2, .int a3] S I J (qE (.inl (some (.int r))) S I J) := by
  refine Ct.of hF (fun _ _ _ _ _ => trivial) (by decide +kernel) (Nat.le_of_ble_eq_true rfl) ⟨Or.inl (sn310 hS), trivial, trivial, trivial⟩ ?_
  show Wp RX11 cX11_pushedBy 6 (some .int) [] hF d 0 0 0 [(0, .ref 310), (1, .int a2), (2, .int a3)] [] S I J _
  unfold mX11_pushedBy at h
  refine wp_iconst (v := 0) dX11_pushedBy_0 (by decide) ?_
  refine wp_istore_n (ls' := [(3, .int 0), (0, .ref 310), (1, .int a2), (2, .int a3)]) dX11_pushedBy_1 rfl (Nat.le_of_ble_eq_true rfl) rfl ?_
  refine wp_iconst (v := 0) dX11_pushedBy_2 (by decide) ?_
  refine wp_istore (ls' := [(4, .int 0), (3, .int 0), (0, .ref 310), (1, .int a2), (2, .int a3)]) dX11_pushedBy_3 (Nat.le_of_ble_eq_true rfl) rfl ?_
  obtain ⟨y10, hL923, h⟩ := obi h
  refine wp_pick (ks := [2, 3, 4, 1, 0]) rfl (wX11_pushedBy_5 d hd hS  a2 a3 I N 0 0 _ hL923 (fun _ e24 => ?_))
  cases e24
  refine wp_iconst (v := (-1)) dX11_pushedBy_55 (by decide) ?_
  refine wp_istore (ls' := [(4, .int (-1)), (0, .ref 310), (1, .int a2), (2, .int a3), (3, .int y10)]) dX11_pushedBy_56 (Nat.le_of_ble_eq_true rfl) rfl ?_
  refine wp_iconst (v := 0) dX11_pushedBy_58 (by decide) ?_
  refine wp_istore (ls' := [(5, .int 0), (4, .int (-1)), (0, .ref 310), (1, .int a2), (2, .int a3), (3, .int y10)]) dX11_pushedBy_59 (Nat.le_of_ble_eq_true rfl) rfl ?_
  obtain ⟨y20, hL921, h⟩ := obi h
  refine wp_pick (ks := [2, 3, 4, 5, 1, 0]) rfl (wX11_pushedBy_61 N d hd hS  a2 a3 y10 I N (-1) 0 _ hL921 (fun _ e22 => ?_))
  cases e22
  refine wp_iload dX11_pushedBy_123 rfl ?_
  exact wp_iret dX11_pushedBy_125 rfl (by obtain rfl := sji h; exact ⟨rfl, rfl, rfl, rfl⟩)
def mX11_settles_12 (k1 : Int32) (k3 : Int32) (I : gI) : Nat → Int32 → Int32 → Option (Int32)
  | 0, _, _ => none
  | n + 1, v4, v5 => if (I 310 15) ≤ v5 then (some v4) else (if ((k3 >>> (v5 &&& 31)) &&& 1) = 1 then (if v4 = (-1) then (mX11_settles_12 k1 k3 I n v5 (v5 + 1)) else (Option.bind (mX11_setupOf v5 I) (fun r5 => Option.bind (mX11_setupOf v4 I) (fun r7 => if r7 ≤ r5 then (mX11_settles_12 k1 k3 I n v4 (v5 + 1)) else (mX11_settles_12 k1 k3 I n v5 (v5 + 1)))))) else (mX11_settles_12 k1 k3 I n v4 (v5 + 1)))
def mX11_settles_128 (k1 : Int32) (k3 : Int32) (k5 : Int32) : Nat → Int32 → gI → Option (gI)
  | 0, _, _ => none
  | n + 1, v6, I => if (I 310 15) ≤ v6 then (some I) else (if ((k5 >>> (v6 &&& 31)) &&& 1) = 1 then (ck ((k1 + 10) + v6) 164 (mX11_settles_128 k1 k3 k5 n (v6 + 1) (upd2 I 317 ((k1 + 10) + v6).toNatClampNeg (-1)))) else (mX11_settles_128 k1 k3 k5 n (v6 + 1) I))
def mX11_settles_2 (N : Nat) (k1 : Int32) : Nat → Int32 → gI → Option (gI)
  | 0, _, _ => none
  | n + 1, v3, I => if v3 = 0 then (some I) else (Option.bind (mX11_settles_12 k1 v3 I N (-1) 0) (fun y10 => ck ((k1 + 1) + y10) 164 (Option.bind (mX11_hasBest N k1 y10 (I 317 ((k1 + 1) + y10).toNatClampNeg) I) (fun (r12, I13) => if r12 = 0 then (mX11_settles_2 N k1 n (v3 &&& (((1 : Int32) <<< (y10 &&& 31)) ^^^ (-1))) I13) else (Option.bind (mX11_takes N k1 y10 I13) (fun I16 => Option.bind (mX11_pushedBy N k1 y10 I16) (fun r18 => Option.bind (mX11_bits N r18 I16) (fun r20 => Option.bind (mX11_settles_128 k1 (v3 &&& (((1 : Int32) <<< (y10 &&& 31)) ^^^ (-1))) r18 N 0 (upd2 I16 310 36 ((I16 310 36) + r20))) (fun I25 => nm ((v3 &&& (((1 : Int32) <<< (y10 &&& 31)) ^^^ (-1))) ||| r18) (fun x26 => mX11_settles_2 N k1 n x26 I25))))))))))
def mX11_settles (N : Nat) (a2 : Int32) (a3 : Int32) (I : gI) : Option (gI) := Option.bind (mX11_settles_2 N a2 N a3 I) (fun I32 => some I32)
set_option maxHeartbeats 4000000 in
set_option maxRecDepth 100000 in
theorem wX11_settles_12 (d : Nat) (hd : 5 ≤ d) {S : gS} {J : gJ} (hS : Sh S)  (k1 : Int32) (k3 : Int32) (I : gI) {Q : gO → gS → gI → gJ → Prop} :
    ∀ (n : Nat) (v4 : Int32) (v5 : Int32) (res : Int32), mX11_settles_12 k1 k3 I n v4 v5 = some res → (∀ (o4 : Int32), res = o4 → Wp RX11 cX11_settles 7 none [] hF d 0 0 62 [(0, .ref 310), (1, .int k1), (3, .int k3), (4, .int o4)] [] S I J Q) → Wp RX11 cX11_settles 7 none [] hF d 0 0 12 [(0, .ref 310), (1, .int k1), (3, .int k3), (4, .int v4), (5, .int v5)] [] S I J Q := by
  intro n
  induction n with
  | zero => intro v4 v5 res h; exact nso h
  | succ n ih =>
    intro v4 v5 res h kx
    rw [mX11_settles_12] at h
    refine wp_iload dX11_settles_12 rfl ?_
    refine wp_aload_n dX11_settles_14 rfl rfl ?_
    refine wp_getI dX11_settles_15 flX11_202 rfl (sk310 hS) (sn310 hS) ?_
    refine wp_icmp_ge (tgt := 62) dX11_settles_18 (by decide) (fun hc2 => ?_) (fun hc2 => ?_)
    · have h := ite_t hc2 h
      exact wp_pick (ks := [0, 1, 2, 3]) rfl (kx _ (sji h).symm)
    · have h := ite_f hc2 h
      refine wp_iload_n dX11_settles_21 rfl rfl ?_
      refine wp_iload dX11_settles_22 rfl ?_
      refine wp_ishr dX11_settles_24 ?_
      refine wp_iconst (v := 1) dX11_settles_25 (by decide) ?_
      refine wp_iand dX11_settles_26 ?_
      refine wp_iconst (v := 1) dX11_settles_27 (by decide) ?_
      refine wp_icmp_ne (tgt := 56) dX11_settles_28 (by decide) (fun hc3 => ?_) (fun hc3 => ?_)
      · have h := ite_f hc3 h
        refine wp_iinc (v := 1) (ls' := [(5, .int (v5 + 1)), (0, .ref 310), (1, .int k1), (3, .int k3), (4, .int v4)]) dX11_settles_56 rfl (by decide) (Nat.le_of_ble_eq_true rfl) rfl ?_
        refine wp_goto (tgt := 12) dX11_settles_59 (by decide) ?_
        exact wp_pick (ks := [1, 2, 3, 4, 0]) rfl (ih _ _ _ h kx)
      · have h := ite_t hc3 h
        refine wp_iload dX11_settles_31 rfl ?_
        refine wp_iconst (v := (-1)) dX11_settles_33 (by decide) ?_
        refine wp_icmp_eq (tgt := 52) dX11_settles_34 (by decide) (fun hc4 => ?_) (fun hc4 => ?_)
        · have h := ite_t hc4 h
          refine wp_iload dX11_settles_52 rfl ?_
          refine wp_istore (ls' := [(4, .int v5), (0, .ref 310), (1, .int k1), (3, .int k3), (5, .int v5)]) dX11_settles_54 (Nat.le_of_ble_eq_true rfl) rfl ?_
          refine wp_iinc (v := 1) (ls' := [(5, .int (v5 + 1)), (4, .int v5), (0, .ref 310), (1, .int k1), (3, .int k3)]) dX11_settles_56 rfl (by decide) (Nat.le_of_ble_eq_true rfl) rfl ?_
          refine wp_goto (tgt := 12) dX11_settles_59 (by decide) ?_
          exact wp_pick (ks := [2, 3, 4, 1, 0]) rfl (ih _ _ _ h kx)
        · have h := ite_f hc4 h
          refine wp_aload_n dX11_settles_37 rfl rfl ?_
          refine wp_iload dX11_settles_38 rfl ?_
          obtain ⟨r5, hF6, h⟩ := obi h
          refine wp_callVi (ci := 11) (As := [.int v5]) dX11_settles_40 lbX11_setupOf mlX11_258 imX11_setupOf seX11_setupOf vc11 (ct_X11_setupOf 0 (Nat.le_refl _) hS  hF6) rfl rfl (Nat.le_trans (by decide) hd) (sk310 hS) (sn310 hS) (Nat.le_of_ble_eq_true rfl) (fun _ => ?_)
          refine wp_aload_n dX11_settles_43 rfl rfl ?_
          refine wp_iload dX11_settles_44 rfl ?_
          obtain ⟨r7, hF8, h⟩ := obi h
          refine wp_callVi (ci := 11) (As := [.int v4]) dX11_settles_46 lbX11_setupOf mlX11_258 imX11_setupOf seX11_setupOf vc11 (ct_X11_setupOf 0 (Nat.le_refl _) hS  hF8) rfl rfl (Nat.le_trans (by decide) hd) (sk310 hS) (sn310 hS) (Nat.le_of_ble_eq_true rfl) (fun _ => ?_)
          refine wp_icmp_ge (tgt := 56) dX11_settles_49 (by decide) (fun hc9 => ?_) (fun hc9 => ?_)
          · have h := ite_t hc9 h
            refine wp_iinc (v := 1) (ls' := [(5, .int (v5 + 1)), (0, .ref 310), (1, .int k1), (3, .int k3), (4, .int v4)]) dX11_settles_56 rfl (by decide) (Nat.le_of_ble_eq_true rfl) rfl ?_
            refine wp_goto (tgt := 12) dX11_settles_59 (by decide) ?_
            exact wp_pick (ks := [1, 2, 3, 4, 0]) rfl (ih _ _ _ h kx)
          · have h := ite_f hc9 h
            refine wp_iload dX11_settles_52 rfl ?_
            refine wp_istore (ls' := [(4, .int v5), (0, .ref 310), (1, .int k1), (3, .int k3), (5, .int v5)]) dX11_settles_54 (Nat.le_of_ble_eq_true rfl) rfl ?_
            refine wp_iinc (v := 1) (ls' := [(5, .int (v5 + 1)), (4, .int v5), (0, .ref 310), (1, .int k1), (3, .int k3)]) dX11_settles_56 rfl (by decide) (Nat.le_of_ble_eq_true rfl) rfl ?_
            refine wp_goto (tgt := 12) dX11_settles_59 (by decide) ?_
            exact wp_pick (ks := [2, 3, 4, 1, 0]) rfl (ih _ _ _ h kx)
set_option maxHeartbeats 4000000 in
set_option maxRecDepth 100000 in
theorem wX11_settles_128 (d : Nat) (hd : 5 ≤ d) {S : gS} {J : gJ} (hS : Sh S)  (k1 : Int32) (k3 : Int32) (k5 : Int32) {Q : gO → gS → gI → gJ → Prop} :
    ∀ (n : Nat) (v6 : Int32) (I : gI) (res : gI), mX11_settles_128 k1 k3 k5 n v6 I = some res → (∀ (O : gI), res = O → Wp RX11 cX11_settles 7 none [] hF d 0 0 167 [(0, .ref 310), (1, .int k1), (3, .int k3), (5, .int k5)] [] S O J Q) → Wp RX11 cX11_settles 7 none [] hF d 0 0 128 [(0, .ref 310), (1, .int k1), (3, .int k3), (5, .int k5), (6, .int v6)] [] S I J Q := by
  intro n
  induction n with
  | zero => intro v6 I res h; exact nso h
  | succ n ih =>
    intro v6 I res h kx
    rw [mX11_settles_128] at h
    refine wp_iload dX11_settles_128 rfl ?_
    refine wp_aload_n dX11_settles_130 rfl rfl ?_
    refine wp_getI dX11_settles_131 flX11_202 rfl (sk310 hS) (sn310 hS) ?_
    refine wp_icmp_ge (tgt := 167) dX11_settles_134 (by decide) (fun hc22 => ?_) (fun hc22 => ?_)
    · have h := ite_t hc22 h
      exact wp_pick (ks := [0, 1, 2, 3]) rfl (kx _ (sji h).symm)
    · have h := ite_f hc22 h
      refine wp_iload dX11_settles_137 rfl ?_
      refine wp_iload dX11_settles_139 rfl ?_
      refine wp_ishr dX11_settles_141 ?_
      refine wp_iconst (v := 1) dX11_settles_142 (by decide) ?_
      refine wp_iand dX11_settles_143 ?_
      refine wp_iconst (v := 1) dX11_settles_144 (by decide) ?_
      refine wp_icmp_ne (tgt := 161) dX11_settles_145 (by decide) (fun hc23 => ?_) (fun hc23 => ?_)
      · have h := ite_f hc23 h
        refine wp_iinc (v := 1) (ls' := [(6, .int (v6 + 1)), (0, .ref 310), (1, .int k1), (3, .int k3), (5, .int k5)]) dX11_settles_161 rfl (by decide) (Nat.le_of_ble_eq_true rfl) rfl ?_
        refine wp_goto (tgt := 128) dX11_settles_164 (by decide) ?_
        exact wp_pick (ks := [1, 2, 3, 4, 0]) rfl (ih _ _ _ h kx)
      · have h := ite_t hc23 h
        refine wp_aload_n dX11_settles_148 rfl rfl ?_
        refine wp_getR dX11_settles_149 flX11_35 rfl (sk310 hS) (sn310 hS) (sr310_23 hS) ?_
        refine wp_iload_n dX11_settles_152 rfl rfl ?_
        refine wp_bipush (v := 10) dX11_settles_153 (by decide) ?_
        refine wp_iadd dX11_settles_155 ?_
        refine wp_iload dX11_settles_156 rfl ?_
        refine wp_iadd dX11_settles_158 ?_
        refine wp_iconst (v := (-1)) dX11_settles_159 (by decide) ?_
        obtain ⟨hb24, h⟩ := ck_inv h
        refine wp_iast dX11_settles_160 (sk317 hS) (sn317 hS) hb24 ?_
        refine wp_iinc (v := 1) (ls' := [(6, .int (v6 + 1)), (0, .ref 310), (1, .int k1), (3, .int k3), (5, .int k5)]) dX11_settles_161 rfl (by decide) (Nat.le_of_ble_eq_true rfl) rfl ?_
        refine wp_goto (tgt := 128) dX11_settles_164 (by decide) ?_
        exact wp_pick (ks := [1, 2, 3, 4, 0]) rfl (ih _ _ _ h kx)
set_option maxHeartbeats 4000000 in
set_option maxRecDepth 100000 in
theorem wX11_settles_2 (N : Nat) (d : Nat) (hd : 5 ≤ d) {S : gS} {J : gJ} (hS : Sh S)  (k1 : Int32) {Q : gO → gS → gI → gJ → Prop} :
    ∀ (n : Nat) (v3 : Int32) (I : gI) (res : gI), mX11_settles_2 N k1 n v3 I = some res → (∀ (O : gI), res = O → Wp RX11 cX11_settles 7 none [] hF d 0 0 175 [] [] S O J Q) → Wp RX11 cX11_settles 7 none [] hF d 0 0 2 [(0, .ref 310), (1, .int k1), (3, .int v3)] [] S I J Q := by
  intro n
  induction n with
  | zero => intro v3 I res h; exact nso h
  | succ n ih =>
    intro v3 I res h kx
    rw [mX11_settles_2] at h
    refine wp_iload_n dX11_settles_2 rfl rfl ?_
    refine wp_if_eq (tgt := 175) dX11_settles_3 (by decide) (fun hc1 => ?_) (fun hc1 => ?_)
    · have h := ite_t hc1 h
      exact wp_pick (ks := []) rfl (kx _ (sji h).symm)
    · have h := ite_f hc1 h
      refine wp_iconst (v := (-1)) dX11_settles_6 (by decide) ?_
      refine wp_istore (ls' := [(4, .int (-1)), (0, .ref 310), (1, .int k1), (3, .int v3)]) dX11_settles_7 (Nat.le_of_ble_eq_true rfl) rfl ?_
      refine wp_iconst (v := 0) dX11_settles_9 (by decide) ?_
      refine wp_istore (ls' := [(5, .int 0), (4, .int (-1)), (0, .ref 310), (1, .int k1), (3, .int v3)]) dX11_settles_10 (Nat.le_of_ble_eq_true rfl) rfl ?_
      obtain ⟨y10, hL930, h⟩ := obi h
      refine wp_pick (ks := [2, 3, 4, 1, 0]) rfl (wX11_settles_12 d hd hS  k1 v3 I N (-1) 0 _ hL930 (fun _ e31 => ?_))
      cases e31
      refine wp_iload_n dX11_settles_62 rfl rfl ?_
      refine wp_iconst (v := 1) dX11_settles_63 (by decide) ?_
      refine wp_iload dX11_settles_64 rfl ?_
      refine wp_ishl dX11_settles_66 ?_
      refine wp_iconst (v := (-1)) dX11_settles_67 (by decide) ?_
      refine wp_ixor dX11_settles_68 ?_
      refine wp_iand dX11_settles_69 ?_
      refine wp_istore_n (ls' := [(3, .int (v3 &&& (((1 : Int32) <<< (y10 &&& 31)) ^^^ (-1)))), (0, .ref 310), (1, .int k1), (4, .int y10)]) dX11_settles_70 rfl (Nat.le_of_ble_eq_true rfl) rfl ?_
      refine wp_aload_n dX11_settles_71 rfl rfl ?_
      refine wp_iload_n dX11_settles_72 rfl rfl ?_
      refine wp_iload dX11_settles_73 rfl ?_
      refine wp_aload_n dX11_settles_75 rfl rfl ?_
      refine wp_getR dX11_settles_76 flX11_35 rfl (sk310 hS) (sn310 hS) (sr310_23 hS) ?_
      refine wp_iload_n dX11_settles_79 rfl rfl ?_
      refine wp_iconst (v := 1) dX11_settles_80 (by decide) ?_
      refine wp_iadd dX11_settles_81 ?_
      refine wp_iload dX11_settles_82 rfl ?_
      refine wp_iadd dX11_settles_84 ?_
      obtain ⟨hb11, h⟩ := ck_inv h
      refine wp_iald dX11_settles_85 (sk317 hS) (sn317 hS) hb11 ?_
      obtain ⟨⟨r12, I13⟩, hF14, h⟩ := obi h
      refine wp_callVi (ci := 11) (As := [.int k1, .int y10, .int (I 317 ((k1 + 1) + y10).toNatClampNeg)]) dX11_settles_86 lbX11_hasBest mlX11_287 imX11_hasBest seX11_hasBest vc11 (ct_X11_hasBest N 3 (Nat.le_refl _) hS  hF14) rfl rfl (Nat.le_trans (by decide) hd) (sk310 hS) (sn310 hS) (Nat.le_of_ble_eq_true rfl) (fun _ => ?_)
      refine wp_if_ne (tgt := 95) dX11_settles_89 (by decide) (fun hc15 => ?_) (fun hc15 => ?_)
      · have h := ite_f hc15 h
        refine wp_aload_n dX11_settles_95 rfl rfl ?_
        refine wp_iload_n dX11_settles_96 rfl rfl ?_
        refine wp_iload dX11_settles_97 rfl ?_
        obtain ⟨I16, hF17, h⟩ := obi h
        refine wp_callVv (ci := 11) (As := [.int k1, .int y10]) dX11_settles_99 lbX11_takes mlX11_290 imX11_takes seX11_takes vc11 (ct_X11_takes N 0 (Nat.le_refl _) hS  hF17) rfl rfl (Nat.le_trans (by decide) hd) (sk310 hS) (sn310 hS) (Nat.le_of_ble_eq_true rfl) (fun _ => ?_)
        refine wp_aload_n dX11_settles_102 rfl rfl ?_
        refine wp_iload_n dX11_settles_103 rfl rfl ?_
        refine wp_iload dX11_settles_104 rfl ?_
        obtain ⟨r18, hF19, h⟩ := obi h
        refine wp_callVi (ci := 11) (As := [.int k1, .int y10]) dX11_settles_106 lbX11_pushedBy mlX11_294 imX11_pushedBy seX11_pushedBy vc11 (ct_X11_pushedBy N 4 (Nat.le_refl _) hS  hF19) rfl rfl (Nat.le_trans (by decide) hd) (sk310 hS) (sn310 hS) (Nat.le_of_ble_eq_true rfl) (fun _ => ?_)
        refine wp_istore (ls' := [(5, .int r18), (3, .int (v3 &&& (((1 : Int32) <<< (y10 &&& 31)) ^^^ (-1)))), (0, .ref 310), (1, .int k1), (4, .int y10)]) dX11_settles_109 (Nat.le_of_ble_eq_true rfl) rfl ?_
        refine wp_aload_n dX11_settles_111 rfl rfl ?_
        refine wp_dup dX11_settles_112 rfl ?_
        refine wp_getI dX11_settles_113 flX11_297 rfl (sk310 hS) (sn310 hS) ?_
        refine wp_iload dX11_settles_116 rfl ?_
        obtain ⟨r20, hF21, h⟩ := obi h
        refine wp_callSi (As := [.int r18]) dX11_settles_118 lbX11_bits mlX11_275 smX11_bits (ct_X11_bits N 0 (Nat.le_refl _) hS  hF21) rfl rfl (Nat.le_trans (by decide) hd) (Nat.le_of_ble_eq_true rfl) (fun _ => ?_)
        refine wp_iadd dX11_settles_121 ?_
        refine wp_putI dX11_settles_122 (Or.inl fpX11_297) rfl ⟨rfl, rfl⟩ (sk310 hS) (sn310 hS) ?_
        refine wp_iconst (v := 0) dX11_settles_125 (by decide) ?_
        refine wp_istore (ls' := [(6, .int 0), (5, .int r18), (3, .int (v3 &&& (((1 : Int32) <<< (y10 &&& 31)) ^^^ (-1)))), (0, .ref 310), (1, .int k1), (4, .int y10)]) dX11_settles_126 (Nat.le_of_ble_eq_true rfl) rfl ?_
        obtain ⟨I25, hL928, h⟩ := obi h
        refine wp_pick (ks := [3, 4, 2, 1, 0]) rfl (wX11_settles_128 d hd hS  k1 (v3 &&& (((1 : Int32) <<< (y10 &&& 31)) ^^^ (-1))) r18 N 0 (upd2 I16 310 36 ((I16 310 36) + r20)) _ hL928 (fun _ e29 => ?_))
        cases e29
        refine wp_iload_n dX11_settles_167 rfl rfl ?_
        refine wp_iload dX11_settles_168 rfl ?_
        refine wp_ior dX11_settles_170 ?_
        obtain ⟨x26, hx27, h⟩ := nm_inv h
        refine wp_topi hx27 ?_
        refine wp_istore_n (ls' := [(3, .int x26), (0, .ref 310), (1, .int k1), (5, .int r18)]) dX11_settles_171 rfl (Nat.le_of_ble_eq_true rfl) rfl ?_
        refine wp_goto (tgt := 2) dX11_settles_172 (by decide) ?_
        exact wp_pick (ks := [1, 2, 0]) rfl (ih _ _ _ h kx)
      · have h := ite_t hc15 h
        refine wp_goto (tgt := 2) dX11_settles_92 (by decide) ?_
        exact wp_pick (ks := [1, 2, 0]) rfl (ih _ _ _ h kx)
set_option maxHeartbeats 4000000 in
set_option maxRecDepth 100000 in
theorem ct_X11_settles (N : Nat) (d : Nat) (hd : 5 ≤ d) {S : gS} {J : gJ} (hS : Sh S)  {a2 : Int32} {a3 : Int32} {I : gI} {r : gI} (h : mX11_settles N a2 a3 I = some r) : Ct yX11_settles (wsY yX11_settles cX11_settles 7 none) d 0 0 [.ref 310, .int a2, .int a3] S I J (qE (.inl none) S r J) := by
  refine Ct.of hF (fun _ _ _ _ _ => trivial) (by decide +kernel) (Nat.le_of_ble_eq_true rfl) ⟨Or.inl (sn310 hS), trivial, trivial, trivial⟩ ?_
  show Wp RX11 cX11_settles 7 none [] hF d 0 0 0 [(0, .ref 310), (1, .int a2), (2, .int a3)] [] S I J _
  unfold mX11_settles at h
  refine wp_iload_n dX11_settles_0 rfl rfl ?_
  refine wp_istore_n (ls' := [(3, .int a3), (0, .ref 310), (1, .int a2), (2, .int a3)]) dX11_settles_1 rfl (Nat.le_of_ble_eq_true rfl) rfl ?_
  obtain ⟨I32, hL933, h⟩ := obi h
  refine wp_pick (ks := [1, 2, 0]) rfl (wX11_settles_2 N d hd hS  a2 N a3 I _ hL933 (fun _ e34 => ?_))
  cases e34
  exact wp_vret dX11_settles_175 rfl (by obtain rfl := sji h; exact ⟨rfl, rfl, rfl, rfl⟩)
def mX11_fails_21 (N : Nat) (k1 : Int32) (k2 : Int32) : Nat → Int32 → Int32 → gI → Option (Int32 × gI)
  | 0, _, _, _ => none
  | n + 1, v3, v4, I => if (I 310 15) ≤ v4 then (some (v3, I)) else (Option.bind (mX11_wayBits N k1 v4 I) (fun r5 => if ((r5 >>> (k2 &&& 31)) &&& 1) = 0 then (mX11_fails_21 N k1 k2 n v3 (v4 + 1) I) else (ck ((k1 + 10) + v4) 164 (mX11_fails_21 N k1 k2 n (v3 ||| ((1 : Int32) <<< (v4 &&& 31))) (v4 + 1) (upd2 I 317 ((k1 + 10) + v4).toNatClampNeg (-1))))))
def mX11_fails (N : Nat) (a2 : Int32) (a3 : Int32) (I : gI) : Option (gI) := ck (a2 + 0) 164 (nm ((I 317 (a2 + 0).toNatClampNeg) &&& (((1 : Int32) <<< (a3 &&& 31)) ^^^ (-1))) (fun x2 => Option.bind (mX11_fails_21 N a2 a3 N 0 0 (upd2 I 317 (a2 + 0).toNatClampNeg x2)) (fun (y9, I10) => Option.bind (mX11_settles N a2 y9 I10) (fun I11 => some I11))))
set_option maxHeartbeats 4000000 in
set_option maxRecDepth 100000 in
theorem wX11_fails_21 (N : Nat) (d : Nat) (hd : 6 ≤ d) {S : gS} {J : gJ} (hS : Sh S)  (k1 : Int32) (k2 : Int32) {Q : gO → gS → gI → gJ → Prop} :
    ∀ (n : Nat) (v3 : Int32) (v4 : Int32) (I : gI) (res : Int32 × gI), mX11_fails_21 N k1 k2 n v3 v4 I = some res → (∀ (o3 : Int32) (O : gI), res = (o3, O) → Wp RX11 cX11_fails 5 none [] hF d 0 0 73 [(0, .ref 310), (1, .int k1), (3, .int o3)] [] S O J Q) → Wp RX11 cX11_fails 5 none [] hF d 0 0 21 [(0, .ref 310), (1, .int k1), (2, .int k2), (3, .int v3), (4, .int v4)] [] S I J Q := by
  intro n
  induction n with
  | zero => intro v3 v4 I res h; exact nso h
  | succ n ih =>
    intro v3 v4 I res h kx
    rw [mX11_fails_21] at h
    refine wp_iload dX11_fails_21 rfl ?_
    refine wp_aload_n dX11_fails_23 rfl rfl ?_
    refine wp_getI dX11_fails_24 flX11_202 rfl (sk310 hS) (sn310 hS) ?_
    refine wp_icmp_ge (tgt := 73) dX11_fails_27 (by decide) (fun hc4 => ?_) (fun hc4 => ?_)
    · have h := ite_t hc4 h
      exact wp_pick (ks := [0, 1, 3]) rfl (kx _ _ (sji h).symm)
    · have h := ite_f hc4 h
      refine wp_aload_n dX11_fails_30 rfl rfl ?_
      refine wp_iload_n dX11_fails_31 rfl rfl ?_
      refine wp_iload dX11_fails_32 rfl ?_
      obtain ⟨r5, hF6, h⟩ := obi h
      refine wp_callVi (ci := 11) (As := [.int k1, .int v4]) dX11_fails_34 lbX11_wayBits mlX11_226 imX11_wayBits seX11_wayBits vc11 (ct_X11_wayBits N 0 (Nat.le_refl _) hS  hF6) rfl rfl (Nat.le_trans (by decide) hd) (sk310 hS) (sn310 hS) (Nat.le_of_ble_eq_true rfl) (fun _ => ?_)
      refine wp_iload_n dX11_fails_37 rfl rfl ?_
      refine wp_ishr dX11_fails_38 ?_
      refine wp_iconst (v := 1) dX11_fails_39 (by decide) ?_
      refine wp_iand dX11_fails_40 ?_
      refine wp_if_ne (tgt := 47) dX11_fails_41 (by decide) (fun hc7 => ?_) (fun hc7 => ?_)
      · have h := ite_f hc7 h
        refine wp_iload_n dX11_fails_47 rfl rfl ?_
        refine wp_iconst (v := 1) dX11_fails_48 (by decide) ?_
        refine wp_iload dX11_fails_49 rfl ?_
        refine wp_ishl dX11_fails_51 ?_
        refine wp_ior dX11_fails_52 ?_
        refine wp_istore_n (ls' := [(3, .int (v3 ||| ((1 : Int32) <<< (v4 &&& 31)))), (0, .ref 310), (1, .int k1), (2, .int k2), (4, .int v4)]) dX11_fails_53 rfl (Nat.le_of_ble_eq_true rfl) rfl ?_
        refine wp_aload_n dX11_fails_54 rfl rfl ?_
        refine wp_getR dX11_fails_55 flX11_35 rfl (sk310 hS) (sn310 hS) (sr310_23 hS) ?_
        refine wp_iload_n dX11_fails_58 rfl rfl ?_
        refine wp_bipush (v := 10) dX11_fails_59 (by decide) ?_
        refine wp_iadd dX11_fails_61 ?_
        refine wp_iload dX11_fails_62 rfl ?_
        refine wp_iadd dX11_fails_64 ?_
        refine wp_iconst (v := (-1)) dX11_fails_65 (by decide) ?_
        obtain ⟨hb8, h⟩ := ck_inv h
        refine wp_iast dX11_fails_66 (sk317 hS) (sn317 hS) hb8 ?_
        refine wp_iinc (v := 1) (ls' := [(4, .int (v4 + 1)), (3, .int (v3 ||| ((1 : Int32) <<< (v4 &&& 31)))), (0, .ref 310), (1, .int k1), (2, .int k2)]) dX11_fails_67 rfl (by decide) (Nat.le_of_ble_eq_true rfl) rfl ?_
        refine wp_goto (tgt := 21) dX11_fails_70 (by decide) ?_
        exact wp_pick (ks := [2, 3, 4, 1, 0]) rfl (ih _ _ _ _ h kx)
      · have h := ite_t hc7 h
        refine wp_goto (tgt := 67) dX11_fails_44 (by decide) ?_
        refine wp_iinc (v := 1) (ls' := [(4, .int (v4 + 1)), (0, .ref 310), (1, .int k1), (2, .int k2), (3, .int v3)]) dX11_fails_67 rfl (by decide) (Nat.le_of_ble_eq_true rfl) rfl ?_
        refine wp_goto (tgt := 21) dX11_fails_70 (by decide) ?_
        exact wp_pick (ks := [1, 2, 3, 4, 0]) rfl (ih _ _ _ _ h kx)
set_option maxHeartbeats 4000000 in
set_option maxRecDepth 100000 in
theorem ct_X11_fails (N : Nat) (d : Nat) (hd : 6 ≤ d) {S : gS} {J : gJ} (hS : Sh S)  {a2 : Int32} {a3 : Int32} {I : gI} {r : gI} (h : mX11_fails N a2 a3 I = some r) : Ct yX11_fails (wsY yX11_fails cX11_fails 5 none) d 0 0 [.ref 310, .int a2, .int a3] S I J (qE (.inl none) S r J) := by
  refine Ct.of hF (fun _ _ _ _ _ => trivial) (by decide +kernel) (Nat.le_of_ble_eq_true rfl) ⟨Or.inl (sn310 hS), trivial, trivial, trivial⟩ ?_
  show Wp RX11 cX11_fails 5 none [] hF d 0 0 0 [(0, .ref 310), (1, .int a2), (2, .int a3)] [] S I J _
  unfold mX11_fails at h
  refine wp_iconst (v := 0) dX11_fails_0 (by decide) ?_
  refine wp_istore_n (ls' := [(3, .int 0), (0, .ref 310), (1, .int a2), (2, .int a3)]) dX11_fails_1 rfl (Nat.le_of_ble_eq_true rfl) rfl ?_
  refine wp_aload_n dX11_fails_2 rfl rfl ?_
  refine wp_getR dX11_fails_3 flX11_35 rfl (sk310 hS) (sn310 hS) (sr310_23 hS) ?_
  refine wp_iload_n dX11_fails_6 rfl rfl ?_
  refine wp_iconst (v := 0) dX11_fails_7 (by decide) ?_
  refine wp_iadd dX11_fails_8 ?_
  refine wp_dup2 dX11_fails_9 rfl rfl ?_
  obtain ⟨hb1, h⟩ := ck_inv h
  refine wp_iald dX11_fails_10 (sk317 hS) (sn317 hS) hb1 ?_
  refine wp_iconst (v := 1) dX11_fails_11 (by decide) ?_
  refine wp_iload_n dX11_fails_12 rfl rfl ?_
  refine wp_ishl dX11_fails_13 ?_
  refine wp_iconst (v := (-1)) dX11_fails_14 (by decide) ?_
  refine wp_ixor dX11_fails_15 ?_
  refine wp_iand dX11_fails_16 ?_
  obtain ⟨x2, hx3, h⟩ := nm_inv h
  refine wp_topi hx3 ?_
  refine wp_iast dX11_fails_17 (sk317 hS) (sn317 hS) hb1 ?_
  refine wp_iconst (v := 0) dX11_fails_18 (by decide) ?_
  refine wp_istore (ls' := [(4, .int 0), (3, .int 0), (0, .ref 310), (1, .int a2), (2, .int a3)]) dX11_fails_19 (Nat.le_of_ble_eq_true rfl) rfl ?_
  obtain ⟨⟨y9, I10⟩, hL913, h⟩ := obi h
  refine wp_pick (ks := [2, 3, 4, 1, 0]) rfl (wX11_fails_21 N d hd hS  a2 a3 N 0 0 (upd2 I 317 (a2 + 0).toNatClampNeg x2) _ hL913 (fun _ _ e14 => ?_))
  cases e14
  refine wp_aload_n dX11_fails_73 rfl rfl ?_
  refine wp_iload_n dX11_fails_74 rfl rfl ?_
  refine wp_iload_n dX11_fails_75 rfl rfl ?_
  obtain ⟨I11, hF12, h⟩ := obi h
  refine wp_callVv (ci := 11) (As := [.int a2, .int y9]) dX11_fails_76 lbX11_settles mlX11_300 imX11_settles seX11_settles vc11 (ct_X11_settles N 5 (Nat.le_refl _) hS  hF12) rfl rfl (Nat.le_trans (by decide) hd) (sk310 hS) (sn310 hS) (Nat.le_of_ble_eq_true rfl) (fun _ => ?_)
  exact wp_vret dX11_fails_79 rfl (by obtain rfl := sji h; exact ⟨rfl, rfl, rfl, rfl⟩)
