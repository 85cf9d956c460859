def mX11_lossBy (N : Nat) (a2 : Int32) (I : gI) : Option (Int32 × gI) := Option.bind (mX11_tries N I) (fun I1 => Option.bind (mX11_fails N 82 a2 I1) (fun I3 => Option.bind (mX11_standing N 0 I3) (fun r5 => Option.bind (mX11_standing N 82 I3) (fun r7 => Option.bind (mX11_bits N (r5 &&& (r7 ^^^ (-1))) I3) (fun r9 => some (r9, I3))))))
set_option maxHeartbeats 4000000 in
set_option maxRecDepth 100000 in
theorem ct_X11_lossBy (N : Nat) (d : Nat) (hd : 7 ≤ d) {S : gS} {J : gJ} (hS : Sh S)  {a2 : Int32} {I : gI} {r : Int32 × gI} (h : mX11_lossBy N a2 I = some r) : Ct yX11_lossBy (wsY yX11_lossBy cX11_lossBy 2 (some .int)) d 0 0 [.ref 310, .int a2] S I J (qE (.inl (some (.int r.1))) S r.2 J) := by
  refine Ct.of hF (fun _ _ _ _ _ => trivial) (by decide +kernel) (Nat.le_of_ble_eq_true rfl) ⟨Or.inl (sn310 hS), trivial, trivial⟩ ?_
  show Wp RX11 cX11_lossBy 2 (some .int) [] hF d 0 0 0 [(0, .ref 310), (1, .int a2)] [] S I J _
  unfold mX11_lossBy at h
  refine wp_aload_n dX11_lossBy_0 rfl rfl ?_
  obtain ⟨I1, hF2, h⟩ := obi h
  refine wp_callVv (ci := 11) (As := []) dX11_lossBy_1 lbX11_tries mlX11_303 imX11_tries seX11_tries vc11 (ct_X11_tries N 0 (Nat.le_refl _) hS  hF2) rfl rfl (Nat.le_trans (by decide) hd) (sk310 hS) (sn310 hS) (Nat.le_of_ble_eq_true rfl) (fun _ => ?_)
  refine wp_aload_n dX11_lossBy_4 rfl rfl ?_
  refine wp_bipush (v := 82) dX11_lossBy_5 (by decide) ?_
  refine wp_iload_n dX11_lossBy_7 rfl rfl ?_
  obtain ⟨I3, hF4, h⟩ := obi h
  refine wp_callVv (ci := 11) (As := [.int 82, .int a2]) dX11_lossBy_8 lbX11_fails mlX11_306 imX11_fails seX11_fails vc11 (ct_X11_fails N 6 (Nat.le_refl _) hS  hF4) rfl rfl (Nat.le_trans (by decide) hd) (sk310 hS) (sn310 hS) (Nat.le_of_ble_eq_true rfl) (fun _ => ?_)
  refine wp_aload_n dX11_lossBy_11 rfl rfl ?_
  refine wp_iconst (v := 0) dX11_lossBy_12 (by decide) ?_
  obtain ⟨r5, hF6, h⟩ := obi h
  refine wp_callVi (ci := 11) (As := [.int 0]) dX11_lossBy_13 lbX11_standing mlX11_309 imX11_standing seX11_standing vc11 (ct_X11_standing N 1 (Nat.le_refl _) hS  hF6) rfl rfl (Nat.le_trans (by decide) hd) (sk310 hS) (sn310 hS) (Nat.le_of_ble_eq_true rfl) (fun _ => ?_)
  refine wp_aload_n dX11_lossBy_16 rfl rfl ?_
  refine wp_bipush (v := 82) dX11_lossBy_17 (by decide) ?_
  obtain ⟨r7, hF8, h⟩ := obi h
  refine wp_callVi (ci := 11) (As := [.int 82]) dX11_lossBy_19 lbX11_standing mlX11_309 imX11_standing seX11_standing vc11 (ct_X11_standing N 1 (Nat.le_refl _) hS  hF8) rfl rfl (Nat.le_trans (by decide) hd) (sk310 hS) (sn310 hS) (Nat.le_of_ble_eq_true rfl) (fun _ => ?_)
  refine wp_iconst (v := (-1)) dX11_lossBy_22 (by decide) ?_
  refine wp_ixor dX11_lossBy_23 ?_
  refine wp_iand dX11_lossBy_24 ?_
  obtain ⟨r9, hF10, h⟩ := obi h
  refine wp_callSi (As := [.int (r5 &&& (r7 ^^^ (-1)))]) dX11_lossBy_25 lbX11_bits mlX11_275 smX11_bits (ct_X11_bits N 0 (Nat.le_refl _) hS  hF10) rfl rfl (Nat.le_trans (by decide) hd) (Nat.le_of_ble_eq_true rfl) (fun _ => ?_)
  exact wp_iret dX11_lossBy_28 rfl (by obtain rfl := sji h; exact ⟨rfl, rfl, rfl, rfl⟩)
def mX11_takenAll_4 (N : Nat) (k1 : Int32) (I : gI) : Nat → Int32 → Int32 → Option (Int32)
  | 0, _, _ => none
  | n + 1, v2, v3 => if (I 310 14) ≤ v3 then (some v2) else (Option.bind (mX11_takenAt N k1 v3 I) (fun r2 => mX11_takenAll_4 N k1 I n (v2 + r2) (v3 + 1)))
def mX11_takenAll (N : Nat) (a2 : Int32) (I : gI) : Option (Int32) := Option.bind (mX11_takenAll_4 N a2 I N 0 0) (fun y4 => some y4)
set_option maxHeartbeats 4000000 in
set_option maxRecDepth 100000 in
theorem wX11_takenAll_4 (N : Nat) (d : Nat) (hd : 3 ≤ d) {S : gS} {J : gJ} (hS : Sh S)  (k1 : Int32) (I : gI) {Q : gO → gS → gI → gJ → Prop} :
    ∀ (n : Nat) (v2 : Int32) (v3 : Int32) (res : Int32), mX11_takenAll_4 N k1 I n v2 v3 = some res → (∀ (o2 : Int32), res = o2 → Wp RX11 cX11_takenAll 4 (some .int) [] hF d 0 0 27 [(2, .int o2)] [] S I J Q) → Wp RX11 cX11_takenAll 4 (some .int) [] hF d 0 0 4 [(0, .ref 310), (1, .int k1), (2, .int v2), (3, .int v3)] [] S I J Q := by
  intro n
  induction n with
  | zero => intro v2 v3 res h; exact nso h
  | succ n ih =>
    intro v2 v3 res h kx
    rw [mX11_takenAll_4] at h
    refine wp_iload_n dX11_takenAll_4 rfl rfl ?_
    refine wp_aload_n dX11_takenAll_5 rfl rfl ?_
    refine wp_getI dX11_takenAll_6 flX11_199 rfl (sk310 hS) (sn310 hS) ?_
    refine wp_icmp_ge (tgt := 27) dX11_takenAll_9 (by decide) (fun hc1 => ?_) (fun hc1 => ?_)
    · have h := ite_t hc1 h
      exact wp_pick (ks := [2]) rfl (kx _ (sji h).symm)
    · have h := ite_f hc1 h
      refine wp_iload_n dX11_takenAll_12 rfl rfl ?_
      refine wp_aload_n dX11_takenAll_13 rfl rfl ?_
      refine wp_iload_n dX11_takenAll_14 rfl rfl ?_
      refine wp_iload_n dX11_takenAll_15 rfl rfl ?_
      obtain ⟨r2, hF3, h⟩ := obi h
      refine wp_callVi (ci := 11) (As := [.int k1, .int v3]) dX11_takenAll_16 lbX11_takenAt mlX11_269 imX11_takenAt seX11_takenAt vc11 (ct_X11_takenAt N 2 (Nat.le_refl _) hS  hF3) rfl rfl (Nat.le_trans (by decide) hd) (sk310 hS) (sn310 hS) (Nat.le_of_ble_eq_true rfl) (fun _ => ?_)
      refine wp_iadd dX11_takenAll_19 ?_
      refine wp_istore_n (ls' := [(2, .int (v2 + r2)), (0, .ref 310), (1, .int k1), (3, .int v3)]) dX11_takenAll_20 rfl (Nat.le_of_ble_eq_true rfl) rfl ?_
      refine wp_iinc (v := 1) (ls' := [(3, .int (v3 + 1)), (2, .int (v2 + r2)), (0, .ref 310), (1, .int k1)]) dX11_takenAll_21 rfl (by decide) (Nat.le_of_ble_eq_true rfl) rfl ?_
      refine wp_goto (tgt := 4) dX11_takenAll_24 (by decide) ?_
      exact wp_pick (ks := [2, 3, 1, 0]) rfl (ih _ _ _ h kx)
set_option maxHeartbeats 4000000 in
set_option maxRecDepth 100000 in
theorem ct_X11_takenAll (N : Nat) (d : Nat) (hd : 3 ≤ d) {S : gS} {J : gJ} (hS : Sh S)  {a2 : Int32} {I : gI} {r : Int32} (h : mX11_takenAll N a2 I = some r) : Ct yX11_takenAll (wsY yX11_takenAll cX11_takenAll 4 (some .int)) d 0 0 [.ref 310, .int a2] S I J (qE (.inl (some (.int r))) S I J) := by
  refine Ct.of hF (fun _ _ _ _ _ => trivial) (by decide +kernel) (Nat.le_of_ble_eq_true rfl) ⟨Or.inl (sn310 hS), trivial, trivial⟩ ?_
  show Wp RX11 cX11_takenAll 4 (some .int) [] hF d 0 0 0 [(0, .ref 310), (1, .int a2)] [] S I J _
  unfold mX11_takenAll at h
  refine wp_iconst (v := 0) dX11_takenAll_0 (by decide) ?_
  refine wp_istore_n (ls' := [(2, .int 0), (0, .ref 310), (1, .int a2)]) dX11_takenAll_1 rfl (Nat.le_of_ble_eq_true rfl) rfl ?_
  refine wp_iconst (v := 0) dX11_takenAll_2 (by decide) ?_
  refine wp_istore_n (ls' := [(3, .int 0), (2, .int 0), (0, .ref 310), (1, .int a2)]) dX11_takenAll_3 rfl (Nat.le_of_ble_eq_true rfl) rfl ?_
  obtain ⟨y4, hL95, h⟩ := obi h
  refine wp_pick (ks := [2, 3, 1, 0]) rfl (wX11_takenAll_4 N d hd hS  a2 I N 0 0 _ hL95 (fun _ e6 => ?_))
  cases e6
  refine wp_iload_n dX11_takenAll_27 rfl rfl ?_
  exact wp_iret dX11_takenAll_28 rfl (by obtain rfl := sji h; exact ⟨rfl, rfl, rfl, rfl⟩)
def mX11_metricAll_4 (N : Nat) (I : gI) : Nat → Int32 → Int32 → Option (Int32)
  | 0, _, _ => none
  | n + 1, v1, v2 => if (I 310 15) ≤ v2 then (some v1) else (Option.bind (mX11_wayBits N 0 v2 I) (fun r2 => Option.bind (mX11_metric N r2 I) (fun r4 => mX11_metricAll_4 N I n (v1 + r4) (v2 + 1))))
def mX11_metricAll (N : Nat) (I : gI) : Option (Int32) := Option.bind (mX11_metricAll_4 N I N 0 0) (fun y6 => some y6)
set_option maxHeartbeats 4000000 in
set_option maxRecDepth 100000 in
theorem wX11_metricAll_4 (N : Nat) (d : Nat) (hd : 1 ≤ d) {S : gS} {J : gJ} (hS : Sh S)  (I : gI) {Q : gO → gS → gI → gJ → Prop} :
    ∀ (n : Nat) (v1 : Int32) (v2 : Int32) (res : Int32), mX11_metricAll_4 N I n v1 v2 = some res → (∀ (o1 : Int32), res = o1 → Wp RX11 cX11_metricAll 3 (some .int) [] hF d 0 0 31 [(1, .int o1)] [] S I J Q) → Wp RX11 cX11_metricAll 3 (some .int) [] hF d 0 0 4 [(0, .ref 310), (1, .int v1), (2, .int v2)] [] S I J Q := by
  intro n
  induction n with
  | zero => intro v1 v2 res h; exact nso h
  | succ n ih =>
    intro v1 v2 res h kx
    rw [mX11_metricAll_4] at h
    refine wp_iload_n dX11_metricAll_4 rfl rfl ?_
    refine wp_aload_n dX11_metricAll_5 rfl rfl ?_
    refine wp_getI dX11_metricAll_6 flX11_202 rfl (sk310 hS) (sn310 hS) ?_
    refine wp_icmp_ge (tgt := 31) dX11_metricAll_9 (by decide) (fun hc1 => ?_) (fun hc1 => ?_)
    · have h := ite_t hc1 h
      exact wp_pick (ks := [1]) rfl (kx _ (sji h).symm)
    · have h := ite_f hc1 h
      refine wp_iload_n dX11_metricAll_12 rfl rfl ?_
      refine wp_aload_n dX11_metricAll_13 rfl rfl ?_
      refine wp_aload_n dX11_metricAll_14 rfl rfl ?_
      refine wp_iconst (v := 0) dX11_metricAll_15 (by decide) ?_
      refine wp_iload_n dX11_metricAll_16 rfl rfl ?_
      obtain ⟨r2, hF3, h⟩ := obi h
      refine wp_callVi (ci := 11) (As := [.int 0, .int v2]) dX11_metricAll_17 lbX11_wayBits mlX11_226 imX11_wayBits seX11_wayBits vc11 (ct_X11_wayBits N 0 (Nat.le_refl _) hS  hF3) rfl rfl (Nat.le_trans (by decide) hd) (sk310 hS) (sn310 hS) (Nat.le_of_ble_eq_true rfl) (fun _ => ?_)
      obtain ⟨r4, hF5, h⟩ := obi h
      refine wp_callVi (ci := 11) (As := [.int r2]) dX11_metricAll_20 lbX11_metric mlX11_240 imX11_metric seX11_metric vc11 (ct_X11_metric N 0 (Nat.le_refl _) hS  hF5) rfl rfl (Nat.le_trans (by decide) hd) (sk310 hS) (sn310 hS) (Nat.le_of_ble_eq_true rfl) (fun _ => ?_)
      refine wp_iadd dX11_metricAll_23 ?_
      refine wp_istore_n (ls' := [(1, .int (v1 + r4)), (0, .ref 310), (2, .int v2)]) dX11_metricAll_24 rfl (Nat.le_of_ble_eq_true rfl) rfl ?_
      refine wp_iinc (v := 1) (ls' := [(2, .int (v2 + 1)), (1, .int (v1 + r4)), (0, .ref 310)]) dX11_metricAll_25 rfl (by decide) (Nat.le_of_ble_eq_true rfl) rfl ?_
      refine wp_goto (tgt := 4) dX11_metricAll_28 (by decide) ?_
      exact wp_pick (ks := [2, 1, 0]) rfl (ih _ _ _ h kx)
set_option maxHeartbeats 4000000 in
set_option maxRecDepth 100000 in
theorem ct_X11_metricAll (N : Nat) (d : Nat) (hd : 1 ≤ d) {S : gS} {J : gJ} (hS : Sh S)  {I : gI} {r : Int32} (h : mX11_metricAll N I = some r) : Ct yX11_metricAll (wsY yX11_metricAll cX11_metricAll 3 (some .int)) d 0 0 [.ref 310] S I J (qE (.inl (some (.int r))) S I J) := by
  refine Ct.of hF (fun _ _ _ _ _ => trivial) (by decide +kernel) (Nat.le_of_ble_eq_true rfl) ⟨Or.inl (sn310 hS), trivial⟩ ?_
  show Wp RX11 cX11_metricAll 3 (some .int) [] hF d 0 0 0 [(0, .ref 310)] [] S I J _
  unfold mX11_metricAll at h
  refine wp_iconst (v := 0) dX11_metricAll_0 (by decide) ?_
  refine wp_istore_n (ls' := [(1, .int 0), (0, .ref 310)]) dX11_metricAll_1 rfl (Nat.le_of_ble_eq_true rfl) rfl ?_
  refine wp_iconst (v := 0) dX11_metricAll_2 (by decide) ?_
  refine wp_istore_n (ls' := [(2, .int 0), (1, .int 0), (0, .ref 310)]) dX11_metricAll_3 rfl (Nat.le_of_ble_eq_true rfl) rfl ?_
  obtain ⟨y6, hL97, h⟩ := obi h
  refine wp_pick (ks := [2, 1, 0]) rfl (wX11_metricAll_4 N d hd hS  I N 0 0 _ hL97 (fun _ e8 => ?_))
  cases e8
  refine wp_iload_n dX11_metricAll_31 rfl rfl ?_
  exact wp_iret dX11_metricAll_32 rfl (by obtain rfl := sji h; exact ⟨rfl, rfl, rfl, rfl⟩)
def mX11_loadAt (N : Nat) (a2 : Int32) (I : gI) : Option (Int32) := Option.bind (mX11_takenAt N 0 a2 I) (fun r1 => ck ((5 * a2) + 3) 80 (nz (I 313 ((5 * a2) + 3).toNatClampNeg) (some ((100 * r1) / (I 313 ((5 * a2) + 3).toNatClampNeg)))))
set_option maxHeartbeats 4000000 in
set_option maxRecDepth 100000 in
theorem ct_X11_loadAt (N : Nat) (d : Nat) (hd : 3 ≤ d) {S : gS} {J : gJ} (hS : Sh S)  {a2 : Int32} {I : gI} {r : Int32} (h : mX11_loadAt N a2 I = some r) : Ct yX11_loadAt (wsY yX11_loadAt cX11_loadAt 2 (some .int)) d 0 0 [.ref 310, .int a2] S I J (qE (.inl (some (.int r))) S I J) := by
  refine Ct.of hF (fun _ _ _ _ _ => trivial) (by decide +kernel) (Nat.le_of_ble_eq_true rfl) ⟨Or.inl (sn310 hS), trivial, trivial⟩ ?_
  show Wp RX11 cX11_loadAt 2 (some .int) [] hF d 0 0 0 [(0, .ref 310), (1, .int a2)] [] S I J _
  unfold mX11_loadAt at h
  refine wp_bipush (v := 100) dX11_loadAt_0 (by decide) ?_
  refine wp_aload_n dX11_loadAt_2 rfl rfl ?_
  refine wp_iconst (v := 0) dX11_loadAt_3 (by decide) ?_
  refine wp_iload_n dX11_loadAt_4 rfl rfl ?_
  obtain ⟨r1, hF2, h⟩ := obi h
  refine wp_callVi (ci := 11) (As := [.int 0, .int a2]) dX11_loadAt_5 lbX11_takenAt mlX11_269 imX11_takenAt seX11_takenAt vc11 (ct_X11_takenAt N 2 (Nat.le_refl _) hS  hF2) rfl rfl (Nat.le_trans (by decide) hd) (sk310 hS) (sn310 hS) (Nat.le_of_ble_eq_true rfl) (fun _ => ?_)
  refine wp_imul dX11_loadAt_8 ?_
  refine wp_aload_n dX11_loadAt_9 rfl rfl ?_
  refine wp_getR dX11_loadAt_10 flX11_23 rfl (sk310 hS) (sn310 hS) (sr310_19 hS) ?_
  refine wp_iconst (v := 5) dX11_loadAt_13 (by decide) ?_
  refine wp_iload_n dX11_loadAt_14 rfl rfl ?_
  refine wp_imul dX11_loadAt_15 ?_
  refine wp_iconst (v := 3) dX11_loadAt_16 (by decide) ?_
  refine wp_iadd dX11_loadAt_17 ?_
  obtain ⟨hb3, h⟩ := ck_inv h
  refine wp_iald dX11_loadAt_18 (sk313 hS) (sn313 hS) hb3 ?_
  obtain ⟨hz4, h⟩ := nz_inv h
  refine wp_idiv dX11_loadAt_19 hz4 ?_
  exact wp_iret dX11_loadAt_20 rfl (by obtain rfl := sji h; exact ⟨rfl, rfl, rfl, rfl⟩)
def mX11_heaviest_4 (N : Nat) (I : gI) : Nat → Int32 → Int32 → Option (Int32)
  | 0, _, _ => none
  | n + 1, v1, v2 => if (I 310 14) ≤ v2 then (some v1) else (Option.bind (mX11_isUp 0 v2 I) (fun r2 => if r2 = 0 then (mX11_heaviest_4 N I n v1 (v2 + 1)) else (if v1 = (-1) then (mX11_heaviest_4 N I n v2 (v2 + 1)) else (Option.bind (mX11_loadAt N v2 I) (fun r6 => Option.bind (mX11_loadAt N v1 I) (fun r8 => if r6 ≤ r8 then (mX11_heaviest_4 N I n v1 (v2 + 1)) else (mX11_heaviest_4 N I n v2 (v2 + 1))))))))
def mX11_heaviest (N : Nat) (I : gI) : Option (Int32) := Option.bind (mX11_heaviest_4 N I N (-1) 0) (fun y11 => some y11)
set_option maxHeartbeats 4000000 in
set_option maxRecDepth 100000 in
theorem wX11_heaviest_4 (N : Nat) (d : Nat) (hd : 4 ≤ d) {S : gS} {J : gJ} (hS : Sh S)  (I : gI) {Q : gO → gS → gI → gJ → Prop} :
    ∀ (n : Nat) (v1 : Int32) (v2 : Int32) (res : Int32), mX11_heaviest_4 N I n v1 v2 = some res → (∀ (o1 : Int32), res = o1 → Wp RX11 cX11_heaviest 3 (some .int) [] hF d 0 0 47 [(1, .int o1)] [] S I J Q) → Wp RX11 cX11_heaviest 3 (some .int) [] hF d 0 0 4 [(0, .ref 310), (1, .int v1), (2, .int v2)] [] S I J Q := by
  intro n
  induction n with
  | zero => intro v1 v2 res h; exact nso h
  | succ n ih =>
    intro v1 v2 res h kx
    rw [mX11_heaviest_4] at h
    refine wp_iload_n dX11_heaviest_4 rfl rfl ?_
    refine wp_aload_n dX11_heaviest_5 rfl rfl ?_
    refine wp_getI dX11_heaviest_6 flX11_199 rfl (sk310 hS) (sn310 hS) ?_
    refine wp_icmp_ge (tgt := 47) dX11_heaviest_9 (by decide) (fun hc1 => ?_) (fun hc1 => ?_)
    · have h := ite_t hc1 h
      exact wp_pick (ks := [1]) rfl (kx _ (sji h).symm)
    · have h := ite_f hc1 h
      refine wp_aload_n dX11_heaviest_12 rfl rfl ?_
      refine wp_iconst (v := 0) dX11_heaviest_13 (by decide) ?_
      refine wp_iload_n dX11_heaviest_14 rfl rfl ?_
      obtain ⟨r2, hF3, h⟩ := obi h
      refine wp_callVi (ci := 11) (As := [.int 0, .int v2]) dX11_heaviest_15 lbX11_isUp mlX11_233 imX11_isUp seX11_isUp vc11 (ct_X11_isUp 0 (Nat.le_refl _) hS  hF3) rfl rfl (Nat.le_trans (by decide) hd) (sk310 hS) (sn310 hS) (Nat.le_of_ble_eq_true rfl) (fun _ => ?_)
      refine wp_if_eq (tgt := 41) dX11_heaviest_18 (by decide) (fun hc4 => ?_) (fun hc4 => ?_)
      · have h := ite_t hc4 h
        refine wp_iinc (v := 1) (ls' := [(2, .int (v2 + 1)), (0, .ref 310), (1, .int v1)]) dX11_heaviest_41 rfl (by decide) (Nat.le_of_ble_eq_true rfl) rfl ?_
        refine wp_goto (tgt := 4) dX11_heaviest_44 (by decide) ?_
        exact wp_pick (ks := [1, 2, 0]) rfl (ih _ _ _ h kx)
      · have h := ite_f hc4 h
        refine wp_iload_n dX11_heaviest_21 rfl rfl ?_
        refine wp_iconst (v := (-1)) dX11_heaviest_22 (by decide) ?_
        refine wp_icmp_eq (tgt := 39) dX11_heaviest_23 (by decide) (fun hc5 => ?_) (fun hc5 => ?_)
        · have h := ite_t hc5 h
          refine wp_iload_n dX11_heaviest_39 rfl rfl ?_
          refine wp_istore_n (ls' := [(1, .int v2), (0, .ref 310), (2, .int v2)]) dX11_heaviest_40 rfl (Nat.le_of_ble_eq_true rfl) rfl ?_
          refine wp_iinc (v := 1) (ls' := [(2, .int (v2 + 1)), (1, .int v2), (0, .ref 310)]) dX11_heaviest_41 rfl (by decide) (Nat.le_of_ble_eq_true rfl) rfl ?_
          refine wp_goto (tgt := 4) dX11_heaviest_44 (by decide) ?_
          exact wp_pick (ks := [2, 1, 0]) rfl (ih _ _ _ h kx)
        · have h := ite_f hc5 h
          refine wp_aload_n dX11_heaviest_26 rfl rfl ?_
          refine wp_iload_n dX11_heaviest_27 rfl rfl ?_
          obtain ⟨r6, hF7, h⟩ := obi h
          refine wp_callVi (ci := 11) (As := [.int v2]) dX11_heaviest_28 lbX11_loadAt mlX11_312 imX11_loadAt seX11_loadAt vc11 (ct_X11_loadAt N 3 (Nat.le_refl _) hS  hF7) rfl rfl (Nat.le_trans (by decide) hd) (sk310 hS) (sn310 hS) (Nat.le_of_ble_eq_true rfl) (fun _ => ?_)
          refine wp_aload_n dX11_heaviest_31 rfl rfl ?_
          refine wp_iload_n dX11_heaviest_32 rfl rfl ?_
          obtain ⟨r8, hF9, h⟩ := obi h
          refine wp_callVi (ci := 11) (As := [.int v1]) dX11_heaviest_33 lbX11_loadAt mlX11_312 imX11_loadAt seX11_loadAt vc11 (ct_X11_loadAt N 3 (Nat.le_refl _) hS  hF9) rfl rfl (Nat.le_trans (by decide) hd) (sk310 hS) (sn310 hS) (Nat.le_of_ble_eq_true rfl) (fun _ => ?_)
          refine wp_icmp_le (tgt := 41) dX11_heaviest_36 (by decide) (fun hc10 => ?_) (fun hc10 => ?_)
          · have h := ite_t hc10 h
            refine wp_iinc (v := 1) (ls' := [(2, .int (v2 + 1)), (0, .ref 310), (1, .int v1)]) dX11_heaviest_41 rfl (by decide) (Nat.le_of_ble_eq_true rfl) rfl ?_
            refine wp_goto (tgt := 4) dX11_heaviest_44 (by decide) ?_
            exact wp_pick (ks := [1, 2, 0]) rfl (ih _ _ _ h kx)
          · have h := ite_f hc10 h
            refine wp_iload_n dX11_heaviest_39 rfl rfl ?_
            refine wp_istore_n (ls' := [(1, .int v2), (0, .ref 310), (2, .int v2)]) dX11_heaviest_40 rfl (Nat.le_of_ble_eq_true rfl) rfl ?_
            refine wp_iinc (v := 1) (ls' := [(2, .int (v2 + 1)), (1, .int v2), (0, .ref 310)]) dX11_heaviest_41 rfl (by decide) (Nat.le_of_ble_eq_true rfl) rfl ?_
            refine wp_goto (tgt := 4) dX11_heaviest_44 (by decide) ?_
            exact wp_pick (ks := [2, 1, 0]) rfl (ih _ _ _ h kx)
set_option maxHeartbeats 4000000 in
set_option maxRecDepth 100000 in
theorem ct_X11_heaviest (N : Nat) (d : Nat) (hd : 4 ≤ d) {S : gS} {J : gJ} (hS : Sh S)  {I : gI} {r : Int32} (h : mX11_heaviest N I = some r) : Ct yX11_heaviest (wsY yX11_heaviest cX11_heaviest 3 (some .int)) d 0 0 [.ref 310] S I J (qE (.inl (some (.int r))) S I J) := by
  refine Ct.of hF (fun _ _ _ _ _ => trivial) (by decide +kernel) (Nat.le_of_ble_eq_true rfl) ⟨Or.inl (sn310 hS), trivial⟩ ?_
  show Wp RX11 cX11_heaviest 3 (some .int) [] hF d 0 0 0 [(0, .ref 310)] [] S I J _
  unfold mX11_heaviest at h
  refine wp_iconst (v := (-1)) dX11_heaviest_0 (by decide) ?_
  refine wp_istore_n (ls' := [(1, .int (-1)), (0, .ref 310)]) dX11_heaviest_1 rfl (Nat.le_of_ble_eq_true rfl) rfl ?_
  refine wp_iconst (v := 0) dX11_heaviest_2 (by decide) ?_
  refine wp_istore_n (ls' := [(2, .int 0), (1, .int (-1)), (0, .ref 310)]) dX11_heaviest_3 rfl (Nat.le_of_ble_eq_true rfl) rfl ?_
  obtain ⟨y11, hL912, h⟩ := obi h
  refine wp_pick (ks := [2, 1, 0]) rfl (wX11_heaviest_4 N d hd hS  I N (-1) 0 _ hL912 (fun _ e13 => ?_))
  cases e13
  refine wp_iload_n dX11_heaviest_47 rfl rfl ?_
  exact wp_iret dX11_heaviest_48 rfl (by obtain rfl := sji h; exact ⟨rfl, rfl, rfl, rfl⟩)
def mX11_worst_7 (N : Nat) (k1 : Int32) : Nat → Int32 → Int32 → Int32 → gI → Option (Int32 × Int32 × gI)
  | 0, _, _, _, _ => none
  | n + 1, v2, v3, v4, I => if (I 310 14) ≤ v4 then (some (v2, v3, I)) else (Option.bind (mX11_isUp 0 v4 I) (fun r2 => if r2 = 0 then (mX11_worst_7 N k1 n v2 v3 (v4 + 1) I) else (Option.bind (mX11_lossBy N v4 I) (fun (r5, I6) => if v3 < r5 then (mX11_worst_7 N k1 n v4 r5 (v4 + 1) I6) else (mX11_worst_7 N k1 n v2 v3 (v4 + 1) I6)))))
def mX11_worst (N : Nat) (a2 : Int32) (I : gI) : Option (Int32 × gI) := Option.bind (mX11_worst_7 N a2 N (-1) 0 0 I) (fun (y9, y10, I11) => if a2 = 0 then (some (y9, I11)) else (some (y10, I11)))
set_option maxHeartbeats 4000000 in
set_option maxRecDepth 100000 in
theorem wX11_worst_7 (N : Nat) (d : Nat) (hd : 8 ≤ d) {S : gS} {J : gJ} (hS : Sh S)  (k1 : Int32) {Q : gO → gS → gI → gJ → Prop} :
    ∀ (n : Nat) (v2 : Int32) (v3 : Int32) (v4 : Int32) (I : gI) (res : Int32 × Int32 × gI), mX11_worst_7 N k1 n v2 v3 v4 I = some res → (∀ (o2 : Int32) (o3 : Int32) (O : gI), res = (o2, o3, O) → Wp RX11 cX11_worst 6 (some .int) [] hF d 0 0 58 [(1, .int k1), (2, .int o2), (3, .int o3)] [] S O J Q) → Wp RX11 cX11_worst 6 (some .int) [] hF d 0 0 7 [(0, .ref 310), (1, .int k1), (2, .int v2), (3, .int v3), (4, .int v4)] [] S I J Q := by
  intro n
  induction n with
  | zero => intro v2 v3 v4 I res h; exact nso h
  | succ n ih =>
    intro v2 v3 v4 I res h kx
    rw [mX11_worst_7] at h
    refine wp_iload dX11_worst_7 rfl ?_
    refine wp_aload_n dX11_worst_9 rfl rfl ?_
    refine wp_getI dX11_worst_10 flX11_199 rfl (sk310 hS) (sn310 hS) ?_
    refine wp_icmp_ge (tgt := 58) dX11_worst_13 (by decide) (fun hc1 => ?_) (fun hc1 => ?_)
    · have h := ite_t hc1 h
      exact wp_pick (ks := [1, 2, 3]) rfl (kx _ _ _ (sji h).symm)
    · have h := ite_f hc1 h
      refine wp_aload_n dX11_worst_16 rfl rfl ?_
      refine wp_iconst (v := 0) dX11_worst_17 (by decide) ?_
      refine wp_iload dX11_worst_18 rfl ?_
      obtain ⟨r2, hF3, h⟩ := obi h
      refine wp_callVi (ci := 11) (As := [.int 0, .int v4]) dX11_worst_20 lbX11_isUp mlX11_233 imX11_isUp seX11_isUp vc11 (ct_X11_isUp 0 (Nat.le_refl _) hS  hF3) rfl rfl (Nat.le_trans (by decide) hd) (sk310 hS) (sn310 hS) (Nat.le_of_ble_eq_true rfl) (fun _ => ?_)
      refine wp_if_ne (tgt := 29) dX11_worst_23 (by decide) (fun hc4 => ?_) (fun hc4 => ?_)
      · have h := ite_f hc4 h
        refine wp_aload_n dX11_worst_29 rfl rfl ?_
        refine wp_iload dX11_worst_30 rfl ?_
        obtain ⟨⟨r5, I6⟩, hF7, h⟩ := obi h
        refine wp_callVi (ci := 11) (As := [.int v4]) dX11_worst_32 lbX11_lossBy mlX11_315 imX11_lossBy seX11_lossBy vc11 (ct_X11_lossBy N 7 (Nat.le_refl _) hS  hF7) rfl rfl (Nat.le_trans (by decide) hd) (sk310 hS) (sn310 hS) (Nat.le_of_ble_eq_true rfl) (fun _ => ?_)
        refine wp_istore (ls' := [(5, .int r5), (0, .ref 310), (1, .int k1), (2, .int v2), (3, .int v3), (4, .int v4)]) dX11_worst_35 (Nat.le_of_ble_eq_true rfl) rfl ?_
        refine wp_iload dX11_worst_37 rfl ?_
        refine wp_iload_n dX11_worst_39 rfl rfl ?_
        refine wp_icmp_gt (tgt := 46) dX11_worst_40 (by decide) (fun hc8 => ?_) (fun hc8 => ?_)
        · have h := ite_t hc8 h
          refine wp_iload dX11_worst_46 rfl ?_
          refine wp_istore_n (ls' := [(2, .int v4), (5, .int r5), (0, .ref 310), (1, .int k1), (3, .int v3), (4, .int v4)]) dX11_worst_48 rfl (Nat.le_of_ble_eq_true rfl) rfl ?_
          refine wp_iload dX11_worst_49 rfl ?_
          refine wp_istore_n (ls' := [(3, .int r5), (2, .int v4), (5, .int r5), (0, .ref 310), (1, .int k1), (4, .int v4)]) dX11_worst_51 rfl (Nat.le_of_ble_eq_true rfl) rfl ?_
          refine wp_iinc (v := 1) (ls' := [(4, .int (v4 + 1)), (3, .int r5), (2, .int v4), (5, .int r5), (0, .ref 310), (1, .int k1)]) dX11_worst_52 rfl (by decide) (Nat.le_of_ble_eq_true rfl) rfl ?_
          refine wp_goto (tgt := 7) dX11_worst_55 (by decide) ?_
          exact wp_pick (ks := [4, 5, 2, 1, 0]) rfl (ih _ _ _ _ _ h kx)
        · have h := ite_f hc8 h
          refine wp_goto (tgt := 52) dX11_worst_43 (by decide) ?_
          refine wp_iinc (v := 1) (ls' := [(4, .int (v4 + 1)), (5, .int r5), (0, .ref 310), (1, .int k1), (2, .int v2), (3, .int v3)]) dX11_worst_52 rfl (by decide) (Nat.le_of_ble_eq_true rfl) rfl ?_
          refine wp_goto (tgt := 7) dX11_worst_55 (by decide) ?_
          exact wp_pick (ks := [2, 3, 4, 5, 0]) rfl (ih _ _ _ _ _ h kx)
      · have h := ite_t hc4 h
        refine wp_goto (tgt := 52) dX11_worst_26 (by decide) ?_
        refine wp_iinc (v := 1) (ls' := [(4, .int (v4 + 1)), (0, .ref 310), (1, .int k1), (2, .int v2), (3, .int v3)]) dX11_worst_52 rfl (by decide) (Nat.le_of_ble_eq_true rfl) rfl ?_
        refine wp_goto (tgt := 7) dX11_worst_55 (by decide) ?_
        exact wp_pick (ks := [1, 2, 3, 4, 0]) rfl (ih _ _ _ _ _ h kx)
set_option maxHeartbeats 4000000 in
set_option maxRecDepth 100000 in
theorem ct_X11_worst (N : Nat) (d : Nat) (hd : 8 ≤ d) {S : gS} {J : gJ} (hS : Sh S)  {a2 : Int32} {I : gI} {r : Int32 × gI} (h : mX11_worst N a2 I = some r) : Ct yX11_worst (wsY yX11_worst cX11_worst 6 (some .int)) d 0 0 [.ref 310, .int a2] S I J (qE (.inl (some (.int r.1))) S r.2 J) := by
  refine Ct.of hF (fun _ _ _ _ _ => trivial) (by decide +kernel) (Nat.le_of_ble_eq_true rfl) ⟨Or.inl (sn310 hS), trivial, trivial⟩ ?_
  show Wp RX11 cX11_worst 6 (some .int) [] hF d 0 0 0 [(0, .ref 310), (1, .int a2)] [] S I J _
  unfold mX11_worst at h
  refine wp_iconst (v := (-1)) dX11_worst_0 (by decide) ?_
  refine wp_istore_n (ls' := [(2, .int (-1)), (0, .ref 310), (1, .int a2)]) dX11_worst_1 rfl (Nat.le_of_ble_eq_true rfl) rfl ?_
  refine wp_iconst (v := 0) dX11_worst_2 (by decide) ?_
  refine wp_istore_n (ls' := [(3, .int 0), (2, .int (-1)), (0, .ref 310), (1, .int a2)]) dX11_worst_3 rfl (Nat.le_of_ble_eq_true rfl) rfl ?_
  refine wp_iconst (v := 0) dX11_worst_4 (by decide) ?_
  refine wp_istore (ls' := [(4, .int 0), (3, .int 0), (2, .int (-1)), (0, .ref 310), (1, .int a2)]) dX11_worst_5 (Nat.le_of_ble_eq_true rfl) rfl ?_
  obtain ⟨⟨y9, y10, I11⟩, hL913, h⟩ := obi h
  refine wp_pick (ks := [3, 4, 2, 1, 0]) rfl (wX11_worst_7 N d hd hS  a2 N (-1) 0 0 I _ hL913 (fun _ _ _ e14 => ?_))
  cases e14
  refine wp_iload_n dX11_worst_58 rfl rfl ?_
  refine wp_if_eq (tgt := 66) dX11_worst_59 (by decide) (fun hc12 => ?_) (fun hc12 => ?_)
  · have h := ite_t hc12 h
    refine wp_iload_n dX11_worst_66 rfl rfl ?_
    exact wp_iret dX11_worst_67 rfl (by obtain rfl := sji h; exact ⟨rfl, rfl, rfl, rfl⟩)
  · have h := ite_f hc12 h
    refine wp_iload_n dX11_worst_62 rfl rfl ?_
    refine wp_goto (tgt := 67) dX11_worst_63 (by decide) ?_
    exact wp_iret dX11_worst_67 rfl (by obtain rfl := sji h; exact ⟨rfl, rfl, rfl, rfl⟩)
def mX11_count (N : Nat) (a2 : Int32) (I : gI) : Option (Int32 × gI) := Option.bind (mX11_within a2 0 16 (upd2 I 310 0 0)) (fun r1 => Option.bind (mX11_right r1 1 (upd2 I 310 0 0)) (fun (r3, I4) => if r3 = 0 then (some (0, I4)) else (if a2 = 0 then (some (I4 310 13, I4)) else (if a2 = 1 then (some (I4 310 14, I4)) else (if a2 = 2 then (some (I4 310 15, I4)) else (if a2 = 3 then (Option.bind (mX11_standing N 0 I4) (fun r11 => some (r11, I4))) else (if a2 = 4 then (some (I4 317 (0 : Int32).toNatClampNeg, I4)) else (if a2 = 5 then (Option.bind (mX11_takenAll N 0 I4) (fun r15 => some (r15, I4))) else (if a2 = 6 then (Option.bind (mX11_metricAll N I4) (fun r18 => some (r18, I4))) else (if a2 = 7 then (Option.bind (mX11_heaviest N I4) (fun r21 => some (r21, I4))) else (if a2 = 8 then (Option.bind (mX11_heaviest N I4) (fun r24 => if r24 = (-1) then (some (0, I4)) else (Option.bind (mX11_heaviest N I4) (fun r27 => Option.bind (mX11_loadAt N r27 I4) (fun r29 => some (r29, I4)))))) else (if a2 = 9 then (Option.bind (mX11_worst N 0 I4) (fun (r32, I33) => some (r32, I33))) else (if a2 = 10 then (Option.bind (mX11_worst N 1 I4) (fun (r36, I37) => some (r36, I37))) else (if a2 = 11 then (some (I4 310 25, I4)) else (if a2 = 12 then (some (I4 310 45, I4)) else (if a2 = 13 then (some (I4 310 2, I4)) else (ck (a2 - 14) 3 (some (I4 312 (a2 - 14).toNatClampNeg, I4)))))))))))))))))))
set_option maxHeartbeats 4000000 in
set_option maxRecDepth 100000 in
theorem ct_X11_count (N : Nat) (d : Nat) (hd : 9 ≤ d) {S : gS} {J : gJ} (hS : Sh S)  {a2 : Int32} {I : gI} {r : Int32 × gI} (h : mX11_count N a2 I = some r) : Ct yX11_count (wsY yX11_count cX11_count 2 (some .int)) d 0 0 [.ref 310, .int a2] S I J (qE (.inl (some (.int r.1))) S r.2 J) := by
  refine Ct.of hF (fun _ _ _ _ _ => trivial) (by decide +kernel) (Nat.le_of_ble_eq_true rfl) ⟨Or.inl (sn310 hS), trivial, trivial⟩ ?_
  show Wp RX11 cX11_count 2 (some .int) [] hF d 0 0 0 [(0, .ref 310), (1, .int a2)] [] S I J _
  unfold mX11_count at h
  refine wp_aload_n dX11_count_0 rfl rfl ?_
  refine wp_iconst (v := 0) dX11_count_1 (by decide) ?_
  refine wp_putI dX11_count_2 (Or.inl fpX11_96) rfl ⟨rfl, rfl⟩ (sk310 hS) (sn310 hS) ?_
  refine wp_aload_n dX11_count_5 rfl rfl ?_
  refine wp_iload_n dX11_count_6 rfl rfl ?_
  refine wp_iconst (v := 0) dX11_count_7 (by decide) ?_
  refine wp_bipush (v := 16) dX11_count_8 (by decide) ?_
  obtain ⟨r1, hF2, h⟩ := obi h
  refine wp_callSi (As := [.int a2, .int 0, .int 16]) dX11_count_10 lbX11_within mlX11_318 smX11_within (ct_X11_within 0 (Nat.le_refl _) hS  hF2) rfl rfl (Nat.le_trans (by decide) hd) (Nat.le_of_ble_eq_true rfl) (fun _ => ?_)
  refine wp_iconst (v := 1) dX11_count_13 (by decide) ?_
  obtain ⟨⟨r3, I4⟩, hF5, h⟩ := obi h
  refine wp_callVi (ci := 11) (As := [.int r1, .int 1]) dX11_count_14 lbX11_right mlX11_192 imX11_right seX11_right vc11 (ct_X11_right 0 (Nat.le_refl _) hS  hF5) rfl rfl (Nat.le_trans (by decide) hd) (sk310 hS) (sn310 hS) (Nat.le_of_ble_eq_true rfl) (fun _ => ?_)
  refine wp_if_ne (tgt := 22) dX11_count_17 (by decide) (fun hc6 => ?_) (fun hc6 => ?_)
  · have h := ite_f hc6 h
    refine wp_iload_n dX11_count_22 rfl rfl ?_
    by_cases hc7 : a2 = 0
    · have h := ite_t hc7 h
      refine wp_tableIn (off := 69) (tgt := 92) dX11_count_23 (by rw [hc7]; decide) (by rw [hc7]; decide) (by rw [hc7]; decide +kernel) (by decide) ?_
      refine wp_aload_n dX11_count_92 rfl rfl ?_
      refine wp_getI dX11_count_93 flX11_20 rfl (sk310 hS) (sn310 hS) ?_
      exact wp_iret dX11_count_96 rfl (by obtain rfl := sji h; exact ⟨rfl, rfl, rfl, rfl⟩)
    · have h := ite_f hc7 h
      by_cases hc8 : a2 = 1
      · have h := ite_t hc8 h
        refine wp_tableIn (off := 74) (tgt := 97) dX11_count_23 (by rw [hc8]; decide) (by rw [hc8]; decide) (by rw [hc8]; decide +kernel) (by decide) ?_
        refine wp_aload_n dX11_count_97 rfl rfl ?_
        refine wp_getI dX11_count_98 flX11_199 rfl (sk310 hS) (sn310 hS) ?_
        exact wp_iret dX11_count_101 rfl (by obtain rfl := sji h; exact ⟨rfl, rfl, rfl, rfl⟩)
      · have h := ite_f hc8 h
        by_cases hc9 : a2 = 2
        · have h := ite_t hc9 h
          refine wp_tableIn (off := 79) (tgt := 102) dX11_count_23 (by rw [hc9]; decide) (by rw [hc9]; decide) (by rw [hc9]; decide +kernel) (by decide) ?_
          refine wp_aload_n dX11_count_102 rfl rfl ?_
          refine wp_getI dX11_count_103 flX11_202 rfl (sk310 hS) (sn310 hS) ?_
          exact wp_iret dX11_count_106 rfl (by obtain rfl := sji h; exact ⟨rfl, rfl, rfl, rfl⟩)
        · have h := ite_f hc9 h
          by_cases hc10 : a2 = 3
          · have h := ite_t hc10 h
            refine wp_tableIn (off := 84) (tgt := 107) dX11_count_23 (by rw [hc10]; decide) (by rw [hc10]; decide) (by rw [hc10]; decide +kernel) (by decide) ?_
            refine wp_aload_n dX11_count_107 rfl rfl ?_
            refine wp_iconst (v := 0) dX11_count_108 (by decide) ?_
            obtain ⟨r11, hF12, h⟩ := obi h
            refine wp_callVi (ci := 11) (As := [.int 0]) dX11_count_109 lbX11_standing mlX11_309 imX11_standing seX11_standing vc11 (ct_X11_standing N 1 (Nat.le_refl _) hS  hF12) rfl rfl (Nat.le_trans (by decide) hd) (sk310 hS) (sn310 hS) (Nat.le_of_ble_eq_true rfl) (fun _ => ?_)
            exact wp_iret dX11_count_112 rfl (by obtain rfl := sji h; exact ⟨rfl, rfl, rfl, rfl⟩)
          · have h := ite_f hc10 h
            by_cases hc13 : a2 = 4
            · have h := ite_t hc13 h
              refine wp_tableIn (off := 90) (tgt := 113) dX11_count_23 (by rw [hc13]; decide) (by rw [hc13]; decide) (by rw [hc13]; decide +kernel) (by decide) ?_
              refine wp_aload_n dX11_count_113 rfl rfl ?_
              refine wp_getR dX11_count_114 flX11_35 rfl (sk310 hS) (sn310 hS) (sr310_23 hS) ?_
              refine wp_iconst (v := 0) dX11_count_117 (by decide) ?_
              refine wp_iald dX11_count_118 (sk317 hS) (sn317 hS) (inb_in (by decide)) ?_
              exact wp_iret dX11_count_119 rfl (by obtain rfl := sji h; exact ⟨rfl, rfl, rfl, rfl⟩)
            · have h := ite_f hc13 h
              by_cases hc14 : a2 = 5
              · have h := ite_t hc14 h
                refine wp_tableIn (off := 97) (tgt := 120) dX11_count_23 (by rw [hc14]; decide) (by rw [hc14]; decide) (by rw [hc14]; decide +kernel) (by decide) ?_
                refine wp_aload_n dX11_count_120 rfl rfl ?_
                refine wp_iconst (v := 0) dX11_count_121 (by decide) ?_
                obtain ⟨r15, hF16, h⟩ := obi h
                refine wp_callVi (ci := 11) (As := [.int 0]) dX11_count_122 lbX11_takenAll mlX11_321 imX11_takenAll seX11_takenAll vc11 (ct_X11_takenAll N 3 (Nat.le_refl _) hS  hF16) rfl rfl (Nat.le_trans (by decide) hd) (sk310 hS) (sn310 hS) (Nat.le_of_ble_eq_true rfl) (fun _ => ?_)
                exact wp_iret dX11_count_125 rfl (by obtain rfl := sji h; exact ⟨rfl, rfl, rfl, rfl⟩)
              · have h := ite_f hc14 h
                by_cases hc17 : a2 = 6
                · have h := ite_t hc17 h
                  refine wp_tableIn (off := 103) (tgt := 126) dX11_count_23 (by rw [hc17]; decide) (by rw [hc17]; decide) (by rw [hc17]; decide +kernel) (by decide) ?_
                  refine wp_aload_n dX11_count_126 rfl rfl ?_
                  obtain ⟨r18, hF19, h⟩ := obi h
                  refine wp_callVi (ci := 11) (As := []) dX11_count_127 lbX11_metricAll mlX11_324 imX11_metricAll seX11_metricAll vc11 (ct_X11_metricAll N 1 (Nat.le_refl _) hS  hF19) rfl rfl (Nat.le_trans (by decide) hd) (sk310 hS) (sn310 hS) (Nat.le_of_ble_eq_true rfl) (fun _ => ?_)
                  exact wp_iret dX11_count_130 rfl (by obtain rfl := sji h; exact ⟨rfl, rfl, rfl, rfl⟩)
                · have h := ite_f hc17 h
                  by_cases hc20 : a2 = 7
                  · have h := ite_t hc20 h
                    refine wp_tableIn (off := 108) (tgt := 131) dX11_count_23 (by rw [hc20]; decide) (by rw [hc20]; decide) (by rw [hc20]; decide +kernel) (by decide) ?_
                    refine wp_aload_n dX11_count_131 rfl rfl ?_
                    obtain ⟨r21, hF22, h⟩ := obi h
                    refine wp_callVi (ci := 11) (As := []) dX11_count_132 lbX11_heaviest mlX11_328 imX11_heaviest seX11_heaviest vc11 (ct_X11_heaviest N 4 (Nat.le_refl _) hS  hF22) rfl rfl (Nat.le_trans (by decide) hd) (sk310 hS) (sn310 hS) (Nat.le_of_ble_eq_true rfl) (fun _ => ?_)
                    exact wp_iret dX11_count_135 rfl (by obtain rfl := sji h; exact ⟨rfl, rfl, rfl, rfl⟩)
                  · have h := ite_f hc20 h
                    by_cases hc23 : a2 = 8
                    · have h := ite_t hc23 h
                      refine wp_tableIn (off := 113) (tgt := 136) dX11_count_23 (by rw [hc23]; decide) (by rw [hc23]; decide) (by rw [hc23]; decide +kernel) (by decide) ?_
                      refine wp_aload_n dX11_count_136 rfl rfl ?_
                      obtain ⟨r24, hF25, h⟩ := obi h
                      refine wp_callVi (ci := 11) (As := []) dX11_count_137 lbX11_heaviest mlX11_328 imX11_heaviest seX11_heaviest vc11 (ct_X11_heaviest N 4 (Nat.le_refl _) hS  hF25) rfl rfl (Nat.le_trans (by decide) hd) (sk310 hS) (sn310 hS) (Nat.le_of_ble_eq_true rfl) (fun _ => ?_)
                      refine wp_iconst (v := (-1)) dX11_count_140 (by decide) ?_
                      refine wp_icmp_ne (tgt := 148) dX11_count_141 (by decide) (fun hc26 => ?_) (fun hc26 => ?_)
                      · have h := ite_f hc26 h
                        refine wp_aload_n dX11_count_148 rfl rfl ?_
                        refine wp_aload_n dX11_count_149 rfl rfl ?_
                        obtain ⟨r27, hF28, h⟩ := obi h
                        refine wp_callVi (ci := 11) (As := []) dX11_count_150 lbX11_heaviest mlX11_328 imX11_heaviest seX11_heaviest vc11 (ct_X11_heaviest N 4 (Nat.le_refl _) hS  hF28) rfl rfl (Nat.le_trans (by decide) hd) (sk310 hS) (sn310 hS) (Nat.le_of_ble_eq_true rfl) (fun _ => ?_)
                        obtain ⟨r29, hF30, h⟩ := obi h
                        refine wp_callVi (ci := 11) (As := [.int r27]) dX11_count_153 lbX11_loadAt mlX11_312 imX11_loadAt seX11_loadAt vc11 (ct_X11_loadAt N 3 (Nat.le_refl _) hS  hF30) rfl rfl (Nat.le_trans (by decide) hd) (sk310 hS) (sn310 hS) (Nat.le_of_ble_eq_true rfl) (fun _ => ?_)
                        exact wp_iret dX11_count_156 rfl (by obtain rfl := sji h; exact ⟨rfl, rfl, rfl, rfl⟩)
                      · have h := ite_t hc26 h
                        refine wp_iconst (v := 0) dX11_count_144 (by decide) ?_
                        refine wp_goto (tgt := 156) dX11_count_145 (by decide) ?_
                        exact wp_iret dX11_count_156 rfl (by obtain rfl := sji h; exact ⟨rfl, rfl, rfl, rfl⟩)
                    · have h := ite_f hc23 h
                      by_cases hc31 : a2 = 9
                      · have h := ite_t hc31 h
                        refine wp_tableIn (off := 134) (tgt := 157) dX11_count_23 (by rw [hc31]; decide) (by rw [hc31]; decide) (by rw [hc31]; decide +kernel) (by decide) ?_
                        refine wp_aload_n dX11_count_157 rfl rfl ?_
                        refine wp_iconst (v := 0) dX11_count_158 (by decide) ?_
                        obtain ⟨⟨r32, I33⟩, hF34, h⟩ := obi h
                        refine wp_callVi (ci := 11) (As := [.int 0]) dX11_count_159 lbX11_worst mlX11_331 imX11_worst seX11_worst vc11 (ct_X11_worst N 8 (Nat.le_refl _) hS  hF34) rfl rfl (Nat.le_trans (by decide) hd) (sk310 hS) (sn310 hS) (Nat.le_of_ble_eq_true rfl) (fun _ => ?_)
                        exact wp_iret dX11_count_162 rfl (by obtain rfl := sji h; exact ⟨rfl, rfl, rfl, rfl⟩)
                      · have h := ite_f hc31 h
                        by_cases hc35 : a2 = 10
                        · have h := ite_t hc35 h
                          refine wp_tableIn (off := 140) (tgt := 163) dX11_count_23 (by rw [hc35]; decide) (by rw [hc35]; decide) (by rw [hc35]; decide +kernel) (by decide) ?_
                          refine wp_aload_n dX11_count_163 rfl rfl ?_
                          refine wp_iconst (v := 1) dX11_count_164 (by decide) ?_
                          obtain ⟨⟨r36, I37⟩, hF38, h⟩ := obi h
                          refine wp_callVi (ci := 11) (As := [.int 1]) dX11_count_165 lbX11_worst mlX11_331 imX11_worst seX11_worst vc11 (ct_X11_worst N 8 (Nat.le_refl _) hS  hF38) rfl rfl (Nat.le_trans (by decide) hd) (sk310 hS) (sn310 hS) (Nat.le_of_ble_eq_true rfl) (fun _ => ?_)
                          exact wp_iret dX11_count_168 rfl (by obtain rfl := sji h; exact ⟨rfl, rfl, rfl, rfl⟩)
                        · have h := ite_f hc35 h
                          by_cases hc39 : a2 = 11
                          · have h := ite_t hc39 h
                            refine wp_tableIn (off := 146) (tgt := 169) dX11_count_23 (by rw [hc39]; decide) (by rw [hc39]; decide) (by rw [hc39]; decide +kernel) (by decide) ?_
                            refine wp_aload_n dX11_count_169 rfl rfl ?_
                            refine wp_getI dX11_count_170 flX11_209 rfl (sk310 hS) (sn310 hS) ?_
                            exact wp_iret dX11_count_173 rfl (by obtain rfl := sji h; exact ⟨rfl, rfl, rfl, rfl⟩)
                          · have h := ite_f hc39 h
                            by_cases hc40 : a2 = 12
                            · have h := ite_t hc40 h
                              refine wp_tableIn (off := 151) (tgt := 174) dX11_count_23 (by rw [hc40]; decide) (by rw [hc40]; decide) (by rw [hc40]; decide +kernel) (by decide) ?_
                              refine wp_aload_n dX11_count_174 rfl rfl ?_
                              refine wp_getI dX11_count_175 flX11_212 rfl (sk310 hS) (sn310 hS) ?_
                              exact wp_iret dX11_count_178 rfl (by obtain rfl := sji h; exact ⟨rfl, rfl, rfl, rfl⟩)
                            · have h := ite_f hc40 h
                              by_cases hc41 : a2 = 13
                              · have h := ite_t hc41 h
                                refine wp_tableIn (off := 156) (tgt := 179) dX11_count_23 (by rw [hc41]; decide) (by rw [hc41]; decide) (by rw [hc41]; decide +kernel) (by decide) ?_
                                refine wp_aload_n dX11_count_179 rfl rfl ?_
                                refine wp_getI dX11_count_180 flX11_99 rfl (sk310 hS) (sn310 hS) ?_
                                exact wp_iret dX11_count_183 rfl (by obtain rfl := sji h; exact ⟨rfl, rfl, rfl, rfl⟩)
                              · have h := ite_f hc41 h
                                have hs43 : a2.toInt < 0 ∨ 13 < a2.toInt := by
                                  by_cases q9 : a2.toInt < 0 ∨ 13 < a2.toInt
                                  · exact q9
                                  · exfalso
                                    rcases (show a2.toInt = 0 ∨ a2.toInt = 1 ∨ a2.toInt = 2 ∨ a2.toInt = 3 ∨ a2.toInt = 4 ∨ a2.toInt = 5 ∨ a2.toInt = 6 ∨ a2.toInt = 7 ∨ a2.toInt = 8 ∨ a2.toInt = 9 ∨ a2.toInt = 10 ∨ a2.toInt = 11 ∨ a2.toInt = 12 ∨ a2.toInt = 13 by omega) with q8 | q8 | q8 | q8 | q8 | q8 | q8 | q8 | q8 | q8 | q8 | q8 | q8 | q8
                                    · exact hc7 (i32e q8)
                                    · exact hc8 (i32e q8)
                                    · exact hc9 (i32e q8)
                                    · exact hc10 (i32e q8)
                                    · exact hc13 (i32e q8)
                                    · exact hc14 (i32e q8)
                                    · exact hc17 (i32e q8)
                                    · exact hc20 (i32e q8)
                                    · exact hc23 (i32e q8)
                                    · exact hc31 (i32e q8)
                                    · exact hc35 (i32e q8)
                                    · exact hc39 (i32e q8)
                                    · exact hc40 (i32e q8)
                                    · exact hc41 (i32e q8)
                                refine wp_tableOut (tgt := 184) dX11_count_23 hs43 (by decide) ?_
                                refine wp_aload_n dX11_count_184 rfl rfl ?_
                                refine wp_getR dX11_count_185 flX11_17 rfl (sk310 hS) (sn310 hS) (sr310_5 hS) ?_
                                refine wp_iload_n dX11_count_188 rfl rfl ?_
                                refine wp_bipush (v := 14) dX11_count_189 (by decide) ?_
                                refine wp_isub dX11_count_191 ?_
                                obtain ⟨hb42, h⟩ := ck_inv h
                                refine wp_iald dX11_count_192 (sk312 hS) (sn312 hS) hb42 ?_
                                exact wp_iret dX11_count_193 rfl (by obtain rfl := sji h; exact ⟨rfl, rfl, rfl, rfl⟩)
  · have h := ite_t hc6 h
    refine wp_iconst (v := 0) dX11_count_20 (by decide) ?_
    exact wp_iret dX11_count_21 rfl (by obtain rfl := sji h; exact ⟨rfl, rfl, rfl, rfl⟩)
def mX11_isLink (a2 : Int32) (I : gI) : Option (Int32 × gI) := Option.bind (if a2 < 0 then (some 0) else (if (I 310 14) ≤ a2 then (some 0) else (some 1)) : Option (Int32)) (fun x1 => Option.bind (mX11_right x1 1 I) (fun (r4, I5) => zo r4 (some (r4, I5))))
set_option maxHeartbeats 4000000 in
set_option maxRecDepth 100000 in
theorem ct_X11_isLink (d : Nat) (hd : 1 ≤ d) {S : gS} {J : gJ} (hS : Sh S)  {a2 : Int32} {I : gI} {r : Int32 × gI} (h : mX11_isLink a2 I = some r) : Ct yX11_isLink (wsY yX11_isLink cX11_isLink 2 (some .boolean)) d 0 0 [.ref 310, .int a2] S I J (qE (.inl (some (.int r.1))) S r.2 J) := by
  refine Ct.of hF (fun _ _ _ _ _ => trivial) (by decide +kernel) (Nat.le_of_ble_eq_true rfl) ⟨Or.inl (sn310 hS), trivial, trivial⟩ ?_
  show Wp RX11 cX11_isLink 2 (some .boolean) [] hF d 0 0 0 [(0, .ref 310), (1, .int a2)] [] S I J _
  unfold mX11_isLink at h
  refine wp_aload_n dX11_isLink_0 rfl rfl ?_
  refine wp_iload_n dX11_isLink_1 rfl rfl ?_
  obtain ⟨x1, hh8, h⟩ := obi h
  have hJ : Wp RX11 cX11_isLink 2 (some .boolean) [] hF d 0 0 18 [] [.int x1, .ref 310] S I J (qE (.inl (some (.int r.1))) S r.2 J) := by
    refine wp_iconst (v := 1) dX11_isLink_18 (by decide) ?_
    obtain ⟨⟨r4, I5⟩, hF6, h⟩ := obi h
    refine wp_callVi (ci := 11) (As := [.int x1, .int 1]) dX11_isLink_19 lbX11_right mlX11_192 imX11_right seX11_right vc11 (ct_X11_right 0 (Nat.le_refl _) hS  hF6) rfl rfl (Nat.le_trans (by decide) hd) (sk310 hS) (sn310 hS) (Nat.le_of_ble_eq_true rfl) (fun _ => ?_)
    obtain ⟨hz7, h⟩ := zo_inv h
    exact wp_zret dX11_isLink_22 rfl hz7 (by obtain rfl := sji h; exact ⟨rfl, rfl, rfl, rfl⟩)
  clear h
  have h := hh8
  clear hh8
  refine wp_if_lt (tgt := 17) dX11_isLink_2 (by decide) (fun hc2 => ?_) (fun hc2 => ?_)
  · have h := ite_t hc2 h
    refine wp_iconst (v := 0) dX11_isLink_17 (by decide) ?_
    cases h
    exact wp_pick (ks := []) rfl hJ
  · have h := ite_f hc2 h
    refine wp_iload_n dX11_isLink_5 rfl rfl ?_
    refine wp_aload_n dX11_isLink_6 rfl rfl ?_
    refine wp_getI dX11_isLink_7 flX11_199 rfl (sk310 hS) (sn310 hS) ?_
    refine wp_icmp_ge (tgt := 17) dX11_isLink_10 (by decide) (fun hc3 => ?_) (fun hc3 => ?_)
    · have h := ite_t hc3 h
      refine wp_iconst (v := 0) dX11_isLink_17 (by decide) ?_
      cases h
      exact wp_pick (ks := []) rfl hJ
    · have h := ite_f hc3 h
      refine wp_iconst (v := 1) dX11_isLink_13 (by decide) ?_
      refine wp_goto (tgt := 18) dX11_isLink_14 (by decide) ?_
      cases h
      exact wp_pick (ks := []) rfl hJ
def mX11_isTunnel (a2 : Int32) (I : gI) : Option (Int32 × gI) := Option.bind (if a2 < 0 then (some 0) else (if (I 310 15) ≤ a2 then (some 0) else (some 1)) : Option (Int32)) (fun x1 => Option.bind (mX11_right x1 1 I) (fun (r4, I5) => zo r4 (some (r4, I5))))
set_option maxHeartbeats 4000000 in
set_option maxRecDepth 100000 in
theorem ct_X11_isTunnel (d : Nat) (hd : 1 ≤ d) {S : gS} {J : gJ} (hS : Sh S)  {a2 : Int32} {I : gI} {r : Int32 × gI} (h : mX11_isTunnel a2 I = some r) : Ct yX11_isTunnel (wsY yX11_isTunnel cX11_isTunnel 2 (some .boolean)) d 0 0 [.ref 310, .int a2] S I J (qE (.inl (some (.int r.1))) S r.2 J) := by
  refine Ct.of hF (fun _ _ _ _ _ => trivial) (by decide +kernel) (Nat.le_of_ble_eq_true rfl) ⟨Or.inl (sn310 hS), trivial, trivial⟩ ?_
  show Wp RX11 cX11_isTunnel 2 (some .boolean) [] hF d 0 0 0 [(0, .ref 310), (1, .int a2)] [] S I J _
  unfold mX11_isTunnel at h
  refine wp_aload_n dX11_isTunnel_0 rfl rfl ?_
  refine wp_iload_n dX11_isTunnel_1 rfl rfl ?_
  obtain ⟨x1, hh8, h⟩ := obi h
  have hJ : Wp RX11 cX11_isTunnel 2 (some .boolean) [] hF d 0 0 18 [] [.int x1, .ref 310] S I J (qE (.inl (some (.int r.1))) S r.2 J) := by
    refine wp_iconst (v := 1) dX11_isTunnel_18 (by decide) ?_
    obtain ⟨⟨r4, I5⟩, hF6, h⟩ := obi h
    refine wp_callVi (ci := 11) (As := [.int x1, .int 1]) dX11_isTunnel_19 lbX11_right mlX11_192 imX11_right seX11_right vc11 (ct_X11_right 0 (Nat.le_refl _) hS  hF6) rfl rfl (Nat.le_trans (by decide) hd) (sk310 hS) (sn310 hS) (Nat.le_of_ble_eq_true rfl) (fun _ => ?_)
    obtain ⟨hz7, h⟩ := zo_inv h
    exact wp_zret dX11_isTunnel_22 rfl hz7 (by obtain rfl := sji h; exact ⟨rfl, rfl, rfl, rfl⟩)
  clear h
  have h := hh8
  clear hh8
  refine wp_if_lt (tgt := 17) dX11_isTunnel_2 (by decide) (fun hc2 => ?_) (fun hc2 => ?_)
  · have h := ite_t hc2 h
    refine wp_iconst (v := 0) dX11_isTunnel_17 (by decide) ?_
    cases h
    exact wp_pick (ks := []) rfl hJ
  · have h := ite_f hc2 h
    refine wp_iload_n dX11_isTunnel_5 rfl rfl ?_
    refine wp_aload_n dX11_isTunnel_6 rfl rfl ?_
    refine wp_getI dX11_isTunnel_7 flX11_202 rfl (sk310 hS) (sn310 hS) ?_
    refine wp_icmp_ge (tgt := 17) dX11_isTunnel_10 (by decide) (fun hc3 => ?_) (fun hc3 => ?_)
    · have h := ite_t hc3 h
      refine wp_iconst (v := 0) dX11_isTunnel_17 (by decide) ?_
      cases h
      exact wp_pick (ks := []) rfl hJ
    · have h := ite_f hc3 h
      refine wp_iconst (v := 1) dX11_isTunnel_13 (by decide) ?_
      refine wp_goto (tgt := 18) dX11_isTunnel_14 (by decide) ?_
      cases h
      exact wp_pick (ks := []) rfl hJ
def mX11_isNode (a2 : Int32) (I : gI) : Option (Int32 × gI) := Option.bind (if a2 < 0 then (some 0) else (if (I 310 13) ≤ a2 then (some 0) else (some 1)) : Option (Int32)) (fun x1 => Option.bind (mX11_right x1 1 I) (fun (r4, I5) => zo r4 (some (r4, I5))))
set_option maxHeartbeats 4000000 in
set_option maxRecDepth 100000 in
theorem ct_X11_isNode (d : Nat) (hd : 1 ≤ d) {S : gS} {J : gJ} (hS : Sh S)  {a2 : Int32} {I : gI} {r : Int32 × gI} (h : mX11_isNode a2 I = some r) : Ct yX11_isNode (wsY yX11_isNode cX11_isNode 2 (some .boolean)) d 0 0 [.ref 310, .int a2] S I J (qE (.inl (some (.int r.1))) S r.2 J) := by
  refine Ct.of hF (fun _ _ _ _ _ => trivial) (by decide +kernel) (Nat.le_of_ble_eq_true rfl) ⟨Or.inl (sn310 hS), trivial, trivial⟩ ?_
  show Wp RX11 cX11_isNode 2 (some .boolean) [] hF d 0 0 0 [(0, .ref 310), (1, .int a2)] [] S I J _
  unfold mX11_isNode at h
  refine wp_aload_n dX11_isNode_0 rfl rfl ?_
  refine wp_iload_n dX11_isNode_1 rfl rfl ?_
  obtain ⟨x1, hh8, h⟩ := obi h
  have hJ : Wp RX11 cX11_isNode 2 (some .boolean) [] hF d 0 0 18 [] [.int x1, .ref 310] S I J (qE (.inl (some (.int r.1))) S r.2 J) := by
    refine wp_iconst (v := 1) dX11_isNode_18 (by decide) ?_
    obtain ⟨⟨r4, I5⟩, hF6, h⟩ := obi h
    refine wp_callVi (ci := 11) (As := [.int x1, .int 1]) dX11_isNode_19 lbX11_right mlX11_192 imX11_right seX11_right vc11 (ct_X11_right 0 (Nat.le_refl _) hS  hF6) rfl rfl (Nat.le_trans (by decide) hd) (sk310 hS) (sn310 hS) (Nat.le_of_ble_eq_true rfl) (fun _ => ?_)
    obtain ⟨hz7, h⟩ := zo_inv h
    exact wp_zret dX11_isNode_22 rfl hz7 (by obtain rfl := sji h; exact ⟨rfl, rfl, rfl, rfl⟩)
  clear h
  have h := hh8
  clear hh8
  refine wp_if_lt (tgt := 17) dX11_isNode_2 (by decide) (fun hc2 => ?_) (fun hc2 => ?_)
  · have h := ite_t hc2 h
    refine wp_iconst (v := 0) dX11_isNode_17 (by decide) ?_
    cases h
    exact wp_pick (ks := []) rfl hJ
  · have h := ite_f hc2 h
    refine wp_iload_n dX11_isNode_5 rfl rfl ?_
    refine wp_aload_n dX11_isNode_6 rfl rfl ?_
    refine wp_getI dX11_isNode_7 flX11_20 rfl (sk310 hS) (sn310 hS) ?_
    refine wp_icmp_ge (tgt := 17) dX11_isNode_10 (by decide) (fun hc3 => ?_) (fun hc3 => ?_)
    · have h := ite_t hc3 h
      refine wp_iconst (v := 0) dX11_isNode_17 (by decide) ?_
      cases h
      exact wp_pick (ks := []) rfl hJ
    · have h := ite_f hc3 h
      refine wp_iconst (v := 1) dX11_isNode_13 (by decide) ?_
      refine wp_goto (tgt := 18) dX11_isNode_14 (by decide) ?_
      cases h
      exact wp_pick (ks := []) rfl hJ
def mX11_isWhat (a2 : Int32) (a3 : Int32) (I : gI) : Option (Int32 × gI) := Option.bind (mX11_within a2 0 a3 I) (fun r1 => Option.bind (mX11_right r1 1 I) (fun (r3, I4) => zo r3 (some (r3, I4))))
set_option maxHeartbeats 4000000 in
set_option maxRecDepth 100000 in
theorem ct_X11_isWhat (d : Nat) (hd : 1 ≤ d) {S : gS} {J : gJ} (hS : Sh S)  {a2 : Int32} {a3 : Int32} {I : gI} {r : Int32 × gI} (h : mX11_isWhat a2 a3 I = some r) : Ct yX11_isWhat (wsY yX11_isWhat cX11_isWhat 3 (some .boolean)) d 0 0 [.ref 310, .int a2, .int a3] S I J (qE (.inl (some (.int r.1))) S r.2 J) := by
  refine Ct.of hF (fun _ _ _ _ _ => trivial) (by decide +kernel) (Nat.le_of_ble_eq_true rfl) ⟨Or.inl (sn310 hS), trivial, trivial, trivial⟩ ?_
  show Wp RX11 cX11_isWhat 3 (some .boolean) [] hF d 0 0 0 [(0, .ref 310), (1, .int a2), (2, .int a3)] [] S I J _
  unfold mX11_isWhat at h
  refine wp_aload_n dX11_isWhat_0 rfl rfl ?_
  refine wp_iload_n dX11_isWhat_1 rfl rfl ?_
  refine wp_iconst (v := 0) dX11_isWhat_2 (by decide) ?_
  refine wp_iload_n dX11_isWhat_3 rfl rfl ?_
  obtain ⟨r1, hF2, h⟩ := obi h
  refine wp_callSi (As := [.int a2, .int 0, .int a3]) dX11_isWhat_4 lbX11_within mlX11_318 smX11_within (ct_X11_within 0 (Nat.le_refl _) hS  hF2) rfl rfl (Nat.le_trans (by decide) hd) (Nat.le_of_ble_eq_true rfl) (fun _ => ?_)
  refine wp_iconst (v := 1) dX11_isWhat_7 (by decide) ?_
  obtain ⟨⟨r3, I4⟩, hF5, h⟩ := obi h
  refine wp_callVi (ci := 11) (As := [.int r1, .int 1]) dX11_isWhat_8 lbX11_right mlX11_192 imX11_right seX11_right vc11 (ct_X11_right 0 (Nat.le_refl _) hS  hF5) rfl rfl (Nat.le_trans (by decide) hd) (sk310 hS) (sn310 hS) (Nat.le_of_ble_eq_true rfl) (fun _ => ?_)
  obtain ⟨hz6, h⟩ := zo_inv h
  exact wp_zret dX11_isWhat_11 rfl hz6 (by obtain rfl := sji h; exact ⟨rfl, rfl, rfl, rfl⟩)
def mX11_onLink_4 (N : Nat) (k1 : Int32) (I : gI) : Nat → Int32 → Int32 → Option (Int32)
  | 0, _, _ => none
  | n + 1, v2, v3 => if (I 310 15) ≤ v3 then (some v2) else (Option.bind (mX11_wayBits N 0 v3 I) (fun r2 => if ((r2 >>> (k1 &&& 31)) &&& 1) = 1 then (mX11_onLink_4 N k1 I n (v2 ||| ((1 : Int32) <<< (v3 &&& 31))) (v3 + 1)) else (mX11_onLink_4 N k1 I n (v2 ||| 0) (v3 + 1))))
def mX11_onLink (N : Nat) (a2 : Int32) (I : gI) : Option (Int32) := Option.bind (mX11_onLink_4 N a2 I N 0 0) (fun y5 => some y5)
set_option maxHeartbeats 4000000 in
set_option maxRecDepth 100000 in
theorem wX11_onLink_4 (N : Nat) (d : Nat) (hd : 1 ≤ d) {S : gS} {J : gJ} (hS : Sh S)  (k1 : Int32) (I : gI) {Q : gO → gS → gI → gJ → Prop} :
    ∀ (n : Nat) (v2 : Int32) (v3 : Int32) (res : Int32), mX11_onLink_4 N k1 I n v2 v3 = some res → (∀ (o2 : Int32), res = o2 → Wp RX11 cX11_onLink 4 (some .int) [] hF d 0 0 42 [(2, .int o2)] [] S I J Q) → Wp RX11 cX11_onLink 4 (some .int) [] hF d 0 0 4 [(0, .ref 310), (1, .int k1), (2, .int v2), (3, .int v3)] [] S I J Q := by
  intro n
  induction n with
  | zero => intro v2 v3 res h; exact nso h
  | succ n ih =>
    intro v2 v3 res h kx
    rw [mX11_onLink_4] at h
    refine wp_iload_n dX11_onLink_4 rfl rfl ?_
    refine wp_aload_n dX11_onLink_5 rfl rfl ?_
    refine wp_getI dX11_onLink_6 flX11_202 rfl (sk310 hS) (sn310 hS) ?_
    refine wp_icmp_ge (tgt := 42) dX11_onLink_9 (by decide) (fun hc1 => ?_) (fun hc1 => ?_)
    · have h := ite_t hc1 h
      exact wp_pick (ks := [2]) rfl (kx _ (sji h).symm)
    · have h := ite_f hc1 h
      refine wp_iload_n dX11_onLink_12 rfl rfl ?_
      refine wp_aload_n dX11_onLink_13 rfl rfl ?_
      refine wp_iconst (v := 0) dX11_onLink_14 (by decide) ?_
      refine wp_iload_n dX11_onLink_15 rfl rfl ?_
      obtain ⟨r2, hF3, h⟩ := obi h
      refine wp_callVi (ci := 11) (As := [.int 0, .int v3]) dX11_onLink_16 lbX11_wayBits mlX11_226 imX11_wayBits seX11_wayBits vc11 (ct_X11_wayBits N 0 (Nat.le_refl _) hS  hF3) rfl rfl (Nat.le_trans (by decide) hd) (sk310 hS) (sn310 hS) (Nat.le_of_ble_eq_true rfl) (fun _ => ?_)
      refine wp_iload_n dX11_onLink_19 rfl rfl ?_
      refine wp_ishr dX11_onLink_20 ?_
      refine wp_iconst (v := 1) dX11_onLink_21 (by decide) ?_
      refine wp_iand dX11_onLink_22 ?_
      refine wp_iconst (v := 1) dX11_onLink_23 (by decide) ?_
      refine wp_icmp_ne (tgt := 33) dX11_onLink_24 (by decide) (fun hc4 => ?_) (fun hc4 => ?_)
      · have h := ite_f hc4 h
        refine wp_iconst (v := 0) dX11_onLink_33 (by decide) ?_
        refine wp_ior dX11_onLink_34 ?_
        refine wp_istore_n (ls' := [(2, .int (v2 ||| 0)), (0, .ref 310), (1, .int k1), (3, .int v3)]) dX11_onLink_35 rfl (Nat.le_of_ble_eq_true rfl) rfl ?_
        refine wp_iinc (v := 1) (ls' := [(3, .int (v3 + 1)), (2, .int (v2 ||| 0)), (0, .ref 310), (1, .int k1)]) dX11_onLink_36 rfl (by decide) (Nat.le_of_ble_eq_true rfl) rfl ?_
        refine wp_goto (tgt := 4) dX11_onLink_39 (by decide) ?_
        exact wp_pick (ks := [2, 3, 1, 0]) rfl (ih _ _ _ h kx)
      · have h := ite_t hc4 h
        refine wp_iconst (v := 1) dX11_onLink_27 (by decide) ?_
        refine wp_iload_n dX11_onLink_28 rfl rfl ?_
        refine wp_ishl dX11_onLink_29 ?_
        refine wp_goto (tgt := 34) dX11_onLink_30 (by decide) ?_
        refine wp_ior dX11_onLink_34 ?_
        refine wp_istore_n (ls' := [(2, .int (v2 ||| ((1 : Int32) <<< (v3 &&& 31)))), (0, .ref 310), (1, .int k1), (3, .int v3)]) dX11_onLink_35 rfl (Nat.le_of_ble_eq_true rfl) rfl ?_
        refine wp_iinc (v := 1) (ls' := [(3, .int (v3 + 1)), (2, .int (v2 ||| ((1 : Int32) <<< (v3 &&& 31)))), (0, .ref 310), (1, .int k1)]) dX11_onLink_36 rfl (by decide) (Nat.le_of_ble_eq_true rfl) rfl ?_
        refine wp_goto (tgt := 4) dX11_onLink_39 (by decide) ?_
        exact wp_pick (ks := [2, 3, 1, 0]) rfl (ih _ _ _ h kx)
set_option maxHeartbeats 4000000 in
set_option maxRecDepth 100000 in
theorem ct_X11_onLink (N : Nat) (d : Nat) (hd : 1 ≤ d) {S : gS} {J : gJ} (hS : Sh S)  {a2 : Int32} {I : gI} {r : Int32} (h : mX11_onLink N a2 I = some r) : Ct yX11_onLink (wsY yX11_onLink cX11_onLink 4 (some .int)) d 0 0 [.ref 310, .int a2] S I J (qE (.inl (some (.int r))) S I J) := by
  refine Ct.of hF (fun _ _ _ _ _ => trivial) (by decide +kernel) (Nat.le_of_ble_eq_true rfl) ⟨Or.inl (sn310 hS), trivial, trivial⟩ ?_
  show Wp RX11 cX11_onLink 4 (some .int) [] hF d 0 0 0 [(0, .ref 310), (1, .int a2)] [] S I J _
  unfold mX11_onLink at h
  refine wp_iconst (v := 0) dX11_onLink_0 (by decide) ?_
  refine wp_istore_n (ls' := [(2, .int 0), (0, .ref 310), (1, .int a2)]) dX11_onLink_1 rfl (Nat.le_of_ble_eq_true rfl) rfl ?_
  refine wp_iconst (v := 0) dX11_onLink_2 (by decide) ?_
  refine wp_istore_n (ls' := [(3, .int 0), (2, .int 0), (0, .ref 310), (1, .int a2)]) dX11_onLink_3 rfl (Nat.le_of_ble_eq_true rfl) rfl ?_
  obtain ⟨y5, hL96, h⟩ := obi h
  refine wp_pick (ks := [2, 3, 1, 0]) rfl (wX11_onLink_4 N d hd hS  a2 I N 0 0 _ hL96 (fun _ e7 => ?_))
  cases e7
  refine wp_iload_n dX11_onLink_42 rfl rfl ?_
  exact wp_iret dX11_onLink_43 rfl (by obtain rfl := sji h; exact ⟨rfl, rfl, rfl, rfl⟩)
def mX11_link (N : Nat) (a2 : Int32) (a3 : Int32) (I : gI) : Option (Int32 × gI) := Option.bind (mX11_isLink a2 (upd2 I 310 0 0)) (fun (r1, I2) => if r1 = 0 then (some (0, I2)) else (Option.bind (mX11_isWhat a3 7 I2) (fun (r5, I6) => if r5 = 0 then (some (0, I6)) else (if a3 = 5 then (Option.bind (mX11_isUp 0 a2 I6) (fun r10 => if r10 = 0 then (some (0, I6)) else (some (1, I6)))) else (if a3 = 6 then (Option.bind (mX11_takenAt N 0 a2 I6) (fun r14 => some (r14, I6))) else (if a3 = 7 then (Option.bind (mX11_onLink N a2 I6) (fun r17 => some (r17, I6))) else (ck ((5 * a2) + a3) 80 (some (I6 313 ((5 * a2) + a3).toNatClampNeg, I6)))))))))
set_option maxHeartbeats 4000000 in
set_option maxRecDepth 100000 in
theorem ct_X11_link (N : Nat) (d : Nat) (hd : 3 ≤ d) {S : gS} {J : gJ} (hS : Sh S)  {a2 : Int32} {a3 : Int32} {I : gI} {r : Int32 × gI} (h : mX11_link N a2 a3 I = some r) : Ct yX11_link (wsY yX11_link cX11_link 3 (some .int)) d 0 0 [.ref 310, .int a2, .int a3] S I J (qE (.inl (some (.int r.1))) S r.2 J) := by
  refine Ct.of hF (fun _ _ _ _ _ => trivial) (by decide +kernel) (Nat.le_of_ble_eq_true rfl) ⟨Or.inl (sn310 hS), trivial, trivial, trivial⟩ ?_
  show Wp RX11 cX11_link 3 (some .int) [] hF d 0 0 0 [(0, .ref 310), (1, .int a2), (2, .int a3)] [] S I J _
  unfold mX11_link at h
  refine wp_aload_n dX11_link_0 rfl rfl ?_
  refine wp_iconst (v := 0) dX11_link_1 (by decide) ?_
  refine wp_putI dX11_link_2 (Or.inl fpX11_96) rfl ⟨rfl, rfl⟩ (sk310 hS) (sn310 hS) ?_
  refine wp_aload_n dX11_link_5 rfl rfl ?_
  refine wp_iload_n dX11_link_6 rfl rfl ?_
  obtain ⟨⟨r1, I2⟩, hF3, h⟩ := obi h
  refine wp_callVi (ci := 11) (As := [.int a2]) dX11_link_7 lbX11_isLink mlX11_335 imX11_isLink seX11_isLink vc11 (ct_X11_isLink 1 (Nat.le_refl _) hS  hF3) rfl rfl (Nat.le_trans (by decide) hd) (sk310 hS) (sn310 hS) (Nat.le_of_ble_eq_true rfl) (fun _ => ?_)
  refine wp_if_eq (tgt := 23) dX11_link_10 (by decide) (fun hc4 => ?_) (fun hc4 => ?_)
  · have h := ite_t hc4 h
    refine wp_iconst (v := 0) dX11_link_23 (by decide) ?_
    exact wp_iret dX11_link_24 rfl (by obtain rfl := sji h; exact ⟨rfl, rfl, rfl, rfl⟩)
  · have h := ite_f hc4 h
    refine wp_aload_n dX11_link_13 rfl rfl ?_
    refine wp_iload_n dX11_link_14 rfl rfl ?_
    refine wp_bipush (v := 7) dX11_link_15 (by decide) ?_
    obtain ⟨⟨r5, I6⟩, hF7, h⟩ := obi h
    refine wp_callVi (ci := 11) (As := [.int a3, .int 7]) dX11_link_17 lbX11_isWhat mlX11_338 imX11_isWhat seX11_isWhat vc11 (ct_X11_isWhat 1 (Nat.le_refl _) hS  hF7) rfl rfl (Nat.le_trans (by decide) hd) (sk310 hS) (sn310 hS) (Nat.le_of_ble_eq_true rfl) (fun _ => ?_)
    refine wp_if_ne (tgt := 25) dX11_link_20 (by decide) (fun hc8 => ?_) (fun hc8 => ?_)
    · have h := ite_f hc8 h
      refine wp_iload_n dX11_link_25 rfl rfl ?_
      by_cases hc9 : a3 = 5
      · have h := ite_t hc9 h
        refine wp_tableIn (off := 26) (tgt := 52) dX11_link_26 (by rw [hc9]; decide) (by rw [hc9]; decide) (by rw [hc9]; decide +kernel) (by decide) ?_
        refine wp_aload_n dX11_link_52 rfl rfl ?_
        refine wp_iconst (v := 0) dX11_link_53 (by decide) ?_
        refine wp_iload_n dX11_link_54 rfl rfl ?_
        obtain ⟨r10, hF11, h⟩ := obi h
        refine wp_callVi (ci := 11) (As := [.int 0, .int a2]) dX11_link_55 lbX11_isUp mlX11_233 imX11_isUp seX11_isUp vc11 (ct_X11_isUp 0 (Nat.le_refl _) hS  hF11) rfl rfl (Nat.le_trans (by decide) hd) (sk310 hS) (sn310 hS) (Nat.le_of_ble_eq_true rfl) (fun _ => ?_)
        refine wp_if_eq (tgt := 65) dX11_link_58 (by decide) (fun hc12 => ?_) (fun hc12 => ?_)
        · have h := ite_t hc12 h
          refine wp_iconst (v := 0) dX11_link_65 (by decide) ?_
          exact wp_iret dX11_link_66 rfl (by obtain rfl := sji h; exact ⟨rfl, rfl, rfl, rfl⟩)
        · have h := ite_f hc12 h
          refine wp_iconst (v := 1) dX11_link_61 (by decide) ?_
          refine wp_goto (tgt := 66) dX11_link_62 (by decide) ?_
          exact wp_iret dX11_link_66 rfl (by obtain rfl := sji h; exact ⟨rfl, rfl, rfl, rfl⟩)
      · have h := ite_f hc9 h
        by_cases hc13 : a3 = 6
        · have h := ite_t hc13 h
          refine wp_tableIn (off := 41) (tgt := 67) dX11_link_26 (by rw [hc13]; decide) (by rw [hc13]; decide) (by rw [hc13]; decide +kernel) (by decide) ?_
          refine wp_aload_n dX11_link_67 rfl rfl ?_
          refine wp_iconst (v := 0) dX11_link_68 (by decide) ?_
          refine wp_iload_n dX11_link_69 rfl rfl ?_
          obtain ⟨r14, hF15, h⟩ := obi h
          refine wp_callVi (ci := 11) (As := [.int 0, .int a2]) dX11_link_70 lbX11_takenAt mlX11_269 imX11_takenAt seX11_takenAt vc11 (ct_X11_takenAt N 2 (Nat.le_refl _) hS  hF15) rfl rfl (Nat.le_trans (by decide) hd) (sk310 hS) (sn310 hS) (Nat.le_of_ble_eq_true rfl) (fun _ => ?_)
          exact wp_iret dX11_link_73 rfl (by obtain rfl := sji h; exact ⟨rfl, rfl, rfl, rfl⟩)
        · have h := ite_f hc13 h
          by_cases hc16 : a3 = 7
          · have h := ite_t hc16 h
            refine wp_tableIn (off := 48) (tgt := 74) dX11_link_26 (by rw [hc16]; decide) (by rw [hc16]; decide) (by rw [hc16]; decide +kernel) (by decide) ?_
            refine wp_aload_n dX11_link_74 rfl rfl ?_
            refine wp_iload_n dX11_link_75 rfl rfl ?_
            obtain ⟨r17, hF18, h⟩ := obi h
            refine wp_callVi (ci := 11) (As := [.int a2]) dX11_link_76 lbX11_onLink mlX11_341 imX11_onLink seX11_onLink vc11 (ct_X11_onLink N 1 (Nat.le_refl _) hS  hF18) rfl rfl (Nat.le_trans (by decide) hd) (sk310 hS) (sn310 hS) (Nat.le_of_ble_eq_true rfl) (fun _ => ?_)
            exact wp_iret dX11_link_79 rfl (by obtain rfl := sji h; exact ⟨rfl, rfl, rfl, rfl⟩)
          · have h := ite_f hc16 h
            have hs20 : a3.toInt < 5 ∨ 7 < a3.toInt := by
              by_cases q9 : a3.toInt < 5 ∨ 7 < a3.toInt
              · exact q9
              · exfalso
                rcases (show a3.toInt = 5 ∨ a3.toInt = 6 ∨ a3.toInt = 7 by omega) with q8 | q8 | q8
                · exact hc9 (i32e q8)
                · exact hc13 (i32e q8)
                · exact hc16 (i32e q8)
            refine wp_tableOut (tgt := 80) dX11_link_26 hs20 (by decide) ?_
            refine wp_aload_n dX11_link_80 rfl rfl ?_
            refine wp_getR dX11_link_81 flX11_23 rfl (sk310 hS) (sn310 hS) (sr310_19 hS) ?_
            refine wp_iconst (v := 5) dX11_link_84 (by decide) ?_
            refine wp_iload_n dX11_link_85 rfl rfl ?_
            refine wp_imul dX11_link_86 ?_
            refine wp_iload_n dX11_link_87 rfl rfl ?_
            refine wp_iadd dX11_link_88 ?_
            obtain ⟨hb19, h⟩ := ck_inv h
            refine wp_iald dX11_link_89 (sk313 hS) (sn313 hS) hb19 ?_
            exact wp_iret dX11_link_90 rfl (by obtain rfl := sji h; exact ⟨rfl, rfl, rfl, rfl⟩)
    · have h := ite_t hc8 h
      refine wp_iconst (v := 0) dX11_link_23 (by decide) ?_
      exact wp_iret dX11_link_24 rfl (by obtain rfl := sji h; exact ⟨rfl, rfl, rfl, rfl⟩)
def mX11_pool (N : Nat) (a2 : Int32) (a3 : Int32) (I : gI) : Option (Int32 × gI) := Option.bind (mX11_isLink a2 (upd2 I 310 0 0)) (fun (r1, I2) => if r1 = 0 then (some (0, I2)) else (Option.bind (mX11_within a3 0 7 I2) (fun r5 => Option.bind (mX11_right r5 2 I2) (fun (r7, I8) => if r7 = 0 then (some (0, I8)) else (Option.bind (mX11_poolAt N 0 a2 a3 I8) (fun r11 => some (r11, I8)))))))
set_option maxHeartbeats 4000000 in
set_option maxRecDepth 100000 in
theorem ct_X11_pool (N : Nat) (d : Nat) (hd : 2 ≤ d) {S : gS} {J : gJ} (hS : Sh S)  {a2 : Int32} {a3 : Int32} {I : gI} {r : Int32 × gI} (h : mX11_pool N a2 a3 I = some r) : Ct yX11_pool (wsY yX11_pool cX11_pool 3 (some .int)) d 0 0 [.ref 310, .int a2, .int a3] S I J (qE (.inl (some (.int r.1))) S r.2 J) := by
  refine Ct.of hF (fun _ _ _ _ _ => trivial) (by decide +kernel) (Nat.le_of_ble_eq_true rfl) ⟨Or.inl (sn310 hS), trivial, trivial, trivial⟩ ?_
  show Wp RX11 cX11_pool 3 (some .int) [] hF d 0 0 0 [(0, .ref 310), (1, .int a2), (2, .int a3)] [] S I J _
  unfold mX11_pool at h
  refine wp_aload_n dX11_pool_0 rfl rfl ?_
  refine wp_iconst (v := 0) dX11_pool_1 (by decide) ?_
  refine wp_putI dX11_pool_2 (Or.inl fpX11_96) rfl ⟨rfl, rfl⟩ (sk310 hS) (sn310 hS) ?_
  refine wp_aload_n dX11_pool_5 rfl rfl ?_
  refine wp_iload_n dX11_pool_6 rfl rfl ?_
  obtain ⟨⟨r1, I2⟩, hF3, h⟩ := obi h
  refine wp_callVi (ci := 11) (As := [.int a2]) dX11_pool_7 lbX11_isLink mlX11_335 imX11_isLink seX11_isLink vc11 (ct_X11_isLink 1 (Nat.le_refl _) hS  hF3) rfl rfl (Nat.le_trans (by decide) hd) (sk310 hS) (sn310 hS) (Nat.le_of_ble_eq_true rfl) (fun _ => ?_)
  refine wp_if_eq (tgt := 28) dX11_pool_10 (by decide) (fun hc4 => ?_) (fun hc4 => ?_)
  · have h := ite_t hc4 h
    refine wp_iconst (v := 0) dX11_pool_28 (by decide) ?_
    exact wp_iret dX11_pool_29 rfl (by obtain rfl := sji h; exact ⟨rfl, rfl, rfl, rfl⟩)
  · have h := ite_f hc4 h
    refine wp_aload_n dX11_pool_13 rfl rfl ?_
    refine wp_iload_n dX11_pool_14 rfl rfl ?_
    refine wp_iconst (v := 0) dX11_pool_15 (by decide) ?_
    refine wp_bipush (v := 7) dX11_pool_16 (by decide) ?_
    obtain ⟨r5, hF6, h⟩ := obi h
    refine wp_callSi (As := [.int a3, .int 0, .int 7]) dX11_pool_18 lbX11_within mlX11_318 smX11_within (ct_X11_within 0 (Nat.le_refl _) hS  hF6) rfl rfl (Nat.le_trans (by decide) hd) (Nat.le_of_ble_eq_true rfl) (fun _ => ?_)
    refine wp_iconst (v := 2) dX11_pool_21 (by decide) ?_
    obtain ⟨⟨r7, I8⟩, hF9, h⟩ := obi h
    refine wp_callVi (ci := 11) (As := [.int r5, .int 2]) dX11_pool_22 lbX11_right mlX11_192 imX11_right seX11_right vc11 (ct_X11_right 0 (Nat.le_refl _) hS  hF9) rfl rfl (Nat.le_trans (by decide) hd) (sk310 hS) (sn310 hS) (Nat.le_of_ble_eq_true rfl) (fun _ => ?_)
    refine wp_if_ne (tgt := 30) dX11_pool_25 (by decide) (fun hc10 => ?_) (fun hc10 => ?_)
    · have h := ite_f hc10 h
      refine wp_aload_n dX11_pool_30 rfl rfl ?_
      refine wp_iconst (v := 0) dX11_pool_31 (by decide) ?_
      refine wp_iload_n dX11_pool_32 rfl rfl ?_
      refine wp_iload_n dX11_pool_33 rfl rfl ?_
      obtain ⟨r11, hF12, h⟩ := obi h
      refine wp_callVi (ci := 11) (As := [.int 0, .int a2, .int a3]) dX11_pool_34 lbX11_poolAt mlX11_229 imX11_poolAt seX11_poolAt vc11 (ct_X11_poolAt N 1 (Nat.le_refl _) hS  hF12) rfl rfl (Nat.le_trans (by decide) hd) (sk310 hS) (sn310 hS) (Nat.le_of_ble_eq_true rfl) (fun _ => ?_)
      exact wp_iret dX11_pool_37 rfl (by obtain rfl := sji h; exact ⟨rfl, rfl, rfl, rfl⟩)
    · have h := ite_t hc10 h
      refine wp_iconst (v := 0) dX11_pool_28 (by decide) ?_
      exact wp_iret dX11_pool_29 rfl (by obtain rfl := sji h; exact ⟨rfl, rfl, rfl, rfl⟩)
def mX11_stretch (N : Nat) (a2 : Int32) (I : gI) : Option (Int32 × gI) := Option.bind (mX11_doesStand 0 a2 I) (fun r1 => if r1 = 0 then (some ((-1), I)) else (Option.bind (mX11_hasAny N 0 a2 I) (fun (r4, I5) => if r4 = 0 then (some ((-1), I5)) else (Option.bind (mX11_wayBits N 0 a2 I5) (fun r8 => Option.bind (mX11_metric N r8 I5) (fun r10 => some (r10 - (I5 310 33), I5)))))))
set_option maxHeartbeats 4000000 in
set_option maxRecDepth 100000 in
theorem ct_X11_stretch (N : Nat) (d : Nat) (hd : 4 ≤ d) {S : gS} {J : gJ} (hS : Sh S)  {a2 : Int32} {I : gI} {r : Int32 × gI} (h : mX11_stretch N a2 I = some r) : Ct yX11_stretch (wsY yX11_stretch cX11_stretch 2 (some .int)) d 0 0 [.ref 310, .int a2] S I J (qE (.inl (some (.int r.1))) S r.2 J) := by
  refine Ct.of hF (fun _ _ _ _ _ => trivial) (by decide +kernel) (Nat.le_of_ble_eq_true rfl) ⟨Or.inl (sn310 hS), trivial, trivial⟩ ?_
  show Wp RX11 cX11_stretch 2 (some .int) [] hF d 0 0 0 [(0, .ref 310), (1, .int a2)] [] S I J _
  unfold mX11_stretch at h
  refine wp_aload_n dX11_stretch_0 rfl rfl ?_
  refine wp_iconst (v := 0) dX11_stretch_1 (by decide) ?_
  refine wp_iload_n dX11_stretch_2 rfl rfl ?_
  obtain ⟨r1, hF2, h⟩ := obi h
  refine wp_callVi (ci := 11) (As := [.int 0, .int a2]) dX11_stretch_3 lbX11_doesStand mlX11_219 imX11_doesStand seX11_doesStand vc11 (ct_X11_doesStand 0 (Nat.le_refl _) hS  hF2) rfl rfl (Nat.le_trans (by decide) hd) (sk310 hS) (sn310 hS) (Nat.le_of_ble_eq_true rfl) (fun _ => ?_)
  refine wp_if_eq (tgt := 18) dX11_stretch_6 (by decide) (fun hc3 => ?_) (fun hc3 => ?_)
  · have h := ite_t hc3 h
    refine wp_iconst (v := (-1)) dX11_stretch_18 (by decide) ?_
    exact wp_iret dX11_stretch_19 rfl (by obtain rfl := sji h; exact ⟨rfl, rfl, rfl, rfl⟩)
  · have h := ite_f hc3 h
    refine wp_aload_n dX11_stretch_9 rfl rfl ?_
    refine wp_iconst (v := 0) dX11_stretch_10 (by decide) ?_
    refine wp_iload_n dX11_stretch_11 rfl rfl ?_
    obtain ⟨⟨r4, I5⟩, hF6, h⟩ := obi h
    refine wp_callVi (ci := 11) (As := [.int 0, .int a2]) dX11_stretch_12 lbX11_hasAny mlX11_344 imX11_hasAny seX11_hasAny vc11 (ct_X11_hasAny N 3 (Nat.le_refl _) hS  hF6) rfl rfl (Nat.le_trans (by decide) hd) (sk310 hS) (sn310 hS) (Nat.le_of_ble_eq_true rfl) (fun _ => ?_)
    refine wp_if_ne (tgt := 20) dX11_stretch_15 (by decide) (fun hc7 => ?_) (fun hc7 => ?_)
    · have h := ite_f hc7 h
      refine wp_aload_n dX11_stretch_20 rfl rfl ?_
      refine wp_aload_n dX11_stretch_21 rfl rfl ?_
      refine wp_iconst (v := 0) dX11_stretch_22 (by decide) ?_
      refine wp_iload_n dX11_stretch_23 rfl rfl ?_
      obtain ⟨r8, hF9, h⟩ := obi h
      refine wp_callVi (ci := 11) (As := [.int 0, .int a2]) dX11_stretch_24 lbX11_wayBits mlX11_226 imX11_wayBits seX11_wayBits vc11 (ct_X11_wayBits N 0 (Nat.le_refl _) hS  hF9) rfl rfl (Nat.le_trans (by decide) hd) (sk310 hS) (sn310 hS) (Nat.le_of_ble_eq_true rfl) (fun _ => ?_)
      obtain ⟨r10, hF11, h⟩ := obi h
      refine wp_callVi (ci := 11) (As := [.int r8]) dX11_stretch_27 lbX11_metric mlX11_240 imX11_metric seX11_metric vc11 (ct_X11_metric N 0 (Nat.le_refl _) hS  hF11) rfl rfl (Nat.le_trans (by decide) hd) (sk310 hS) (sn310 hS) (Nat.le_of_ble_eq_true rfl) (fun _ => ?_)
      refine wp_aload_n dX11_stretch_30 rfl rfl ?_
      refine wp_getI dX11_stretch_31 flX11_249 rfl (sk310 hS) (sn310 hS) ?_
      refine wp_isub dX11_stretch_34 ?_
      exact wp_iret dX11_stretch_35 rfl (by obtain rfl := sji h; exact ⟨rfl, rfl, rfl, rfl⟩)
    · have h := ite_t hc7 h
      refine wp_iconst (v := (-1)) dX11_stretch_18 (by decide) ?_
      exact wp_iret dX11_stretch_19 rfl (by obtain rfl := sji h; exact ⟨rfl, rfl, rfl, rfl⟩)
def mX11_tunnel (N : Nat) (a2 : Int32) (a3 : Int32) (I : gI) : Option (Int32 × gI) := Option.bind (mX11_isTunnel a2 (upd2 I 310 0 0)) (fun (r1, I2) => if r1 = 0 then (some (0, I2)) else (Option.bind (mX11_isWhat a3 10 I2) (fun (r5, I6) => if r5 = 0 then (some (0, I6)) else (if a3 = 2 then (ck (1 + a2) 164 (some (I6 317 (1 + a2).toNatClampNeg, I6))) else (if a3 = 3 then (ck ((7 * a2) + a3) 63 (some (I6 315 ((7 * a2) + a3).toNatClampNeg, I6))) else (if a3 = 4 then (ck ((7 * a2) + a3) 63 (some (I6 315 ((7 * a2) + a3).toNatClampNeg, I6))) else (if a3 = 5 then (ck ((7 * a2) + a3) 63 (some (I6 315 ((7 * a2) + a3).toNatClampNeg, I6))) else (if a3 = 6 then (ck ((7 * a2) + a3) 63 (some (I6 315 ((7 * a2) + a3).toNatClampNeg, I6))) else (if a3 = 7 then (Option.bind (mX11_doesStand 0 a2 I6) (fun r20 => if r20 = 0 then (some (0, I6)) else (some (1, I6)))) else (if a3 = 8 then (ck (10 + a2) 164 (some (I6 317 (10 + a2).toNatClampNeg, I6))) else (if a3 = 9 then (Option.bind (mX11_doesStand 0 a2 I6) (fun r26 => if r26 = 0 then (some ((-1), I6)) else (Option.bind (mX11_wayBits N 0 a2 I6) (fun r29 => Option.bind (mX11_metric N r29 I6) (fun r31 => some (r31, I6)))))) else (if a3 = 10 then (Option.bind (mX11_stretch N a2 I6) (fun (r34, I35) => some (r34, I35))) else (ck ((7 * a2) + a3) 63 (some (I6 315 ((7 * a2) + a3).toNatClampNeg, I6)))))))))))))))
set_option maxHeartbeats 4000000 in
set_option maxRecDepth 100000 in
theorem ct_X11_tunnel (N : Nat) (d : Nat) (hd : 5 ≤ d) {S : gS} {J : gJ} (hS : Sh S)  {a2 : Int32} {a3 : Int32} {I : gI} {r : Int32 × gI} (h : mX11_tunnel N a2 a3 I = some r) : Ct yX11_tunnel (wsY yX11_tunnel cX11_tunnel 3 (some .int)) d 0 0 [.ref 310, .int a2, .int a3] S I J (qE (.inl (some (.int r.1))) S r.2 J) := by
  refine Ct.of hF (fun _ _ _ _ _ => trivial) (by decide +kernel) (Nat.le_of_ble_eq_true rfl) ⟨Or.inl (sn310 hS), trivial, trivial, trivial⟩ ?_
  show Wp RX11 cX11_tunnel 3 (some .int) [] hF d 0 0 0 [(0, .ref 310), (1, .int a2), (2, .int a3)] [] S I J _
  unfold mX11_tunnel at h
  refine wp_aload_n dX11_tunnel_0 rfl rfl ?_
  refine wp_iconst (v := 0) dX11_tunnel_1 (by decide) ?_
  refine wp_putI dX11_tunnel_2 (Or.inl fpX11_96) rfl ⟨rfl, rfl⟩ (sk310 hS) (sn310 hS) ?_
  refine wp_aload_n dX11_tunnel_5 rfl rfl ?_
  refine wp_iload_n dX11_tunnel_6 rfl rfl ?_
  obtain ⟨⟨r1, I2⟩, hF3, h⟩ := obi h
  refine wp_callVi (ci := 11) (As := [.int a2]) dX11_tunnel_7 lbX11_isTunnel mlX11_347 imX11_isTunnel seX11_isTunnel vc11 (ct_X11_isTunnel 1 (Nat.le_refl _) hS  hF3) rfl rfl (Nat.le_trans (by decide) hd) (sk310 hS) (sn310 hS) (Nat.le_of_ble_eq_true rfl) (fun _ => ?_)
  refine wp_if_eq (tgt := 23) dX11_tunnel_10 (by decide) (fun hc4 => ?_) (fun hc4 => ?_)
  · have h := ite_t hc4 h
    refine wp_iconst (v := 0) dX11_tunnel_23 (by decide) ?_
    exact wp_iret dX11_tunnel_24 rfl (by obtain rfl := sji h; exact ⟨rfl, rfl, rfl, rfl⟩)
  · have h := ite_f hc4 h
    refine wp_aload_n dX11_tunnel_13 rfl rfl ?_
    refine wp_iload_n dX11_tunnel_14 rfl rfl ?_
    refine wp_bipush (v := 10) dX11_tunnel_15 (by decide) ?_
    obtain ⟨⟨r5, I6⟩, hF7, h⟩ := obi h
    refine wp_callVi (ci := 11) (As := [.int a3, .int 10]) dX11_tunnel_17 lbX11_isWhat mlX11_338 imX11_isWhat seX11_isWhat vc11 (ct_X11_isWhat 1 (Nat.le_refl _) hS  hF7) rfl rfl (Nat.le_trans (by decide) hd) (sk310 hS) (sn310 hS) (Nat.le_of_ble_eq_true rfl) (fun _ => ?_)
    refine wp_if_ne (tgt := 25) dX11_tunnel_20 (by decide) (fun hc8 => ?_) (fun hc8 => ?_)
    · have h := ite_f hc8 h
      refine wp_iload_n dX11_tunnel_25 rfl rfl ?_
      by_cases hc9 : a3 = 2
      · have h := ite_t hc9 h
        refine wp_tableIn (off := 50) (tgt := 76) dX11_tunnel_26 (by rw [hc9]; decide) (by rw [hc9]; decide) (by rw [hc9]; decide +kernel) (by decide) ?_
        refine wp_aload_n dX11_tunnel_76 rfl rfl ?_
        refine wp_getR dX11_tunnel_77 flX11_35 rfl (sk310 hS) (sn310 hS) (sr310_23 hS) ?_
        refine wp_iconst (v := 1) dX11_tunnel_80 (by decide) ?_
        refine wp_iload_n dX11_tunnel_81 rfl rfl ?_
        refine wp_iadd dX11_tunnel_82 ?_
        obtain ⟨hb10, h⟩ := ck_inv h
        refine wp_iald dX11_tunnel_83 (sk317 hS) (sn317 hS) hb10 ?_
        exact wp_iret dX11_tunnel_84 rfl (by obtain rfl := sji h; exact ⟨rfl, rfl, rfl, rfl⟩)
      · have h := ite_f hc9 h
        by_cases hc11 : a3 = 3
        · have h := ite_t hc11 h
          refine wp_tableIn (off := 114) (tgt := 140) dX11_tunnel_26 (by rw [hc11]; decide) (by rw [hc11]; decide) (by rw [hc11]; decide +kernel) (by decide) ?_
          refine wp_aload_n dX11_tunnel_140 rfl rfl ?_
          refine wp_getR dX11_tunnel_141 flX11_29 rfl (sk310 hS) (sn310 hS) (sr310_21 hS) ?_
          refine wp_bipush (v := 7) dX11_tunnel_144 (by decide) ?_
          refine wp_iload_n dX11_tunnel_146 rfl rfl ?_
          refine wp_imul dX11_tunnel_147 ?_
          refine wp_iload_n dX11_tunnel_148 rfl rfl ?_
          refine wp_iadd dX11_tunnel_149 ?_
          obtain ⟨hb12, h⟩ := ck_inv h
          refine wp_iald dX11_tunnel_150 (sk315 hS) (sn315 hS) hb12 ?_
          exact wp_iret dX11_tunnel_151 rfl (by obtain rfl := sji h; exact ⟨rfl, rfl, rfl, rfl⟩)
        · have h := ite_f hc11 h
          by_cases hc13 : a3 = 4
          · have h := ite_t hc13 h
            refine wp_tableIn (off := 114) (tgt := 140) dX11_tunnel_26 (by rw [hc13]; decide) (by rw [hc13]; decide) (by rw [hc13]; decide +kernel) (by decide) ?_
            refine wp_aload_n dX11_tunnel_140 rfl rfl ?_
            refine wp_getR dX11_tunnel_141 flX11_29 rfl (sk310 hS) (sn310 hS) (sr310_21 hS) ?_
            refine wp_bipush (v := 7) dX11_tunnel_144 (by decide) ?_
            refine wp_iload_n dX11_tunnel_146 rfl rfl ?_
            refine wp_imul dX11_tunnel_147 ?_
            refine wp_iload_n dX11_tunnel_148 rfl rfl ?_
            refine wp_iadd dX11_tunnel_149 ?_
            obtain ⟨hb14, h⟩ := ck_inv h
            refine wp_iald dX11_tunnel_150 (sk315 hS) (sn315 hS) hb14 ?_
            exact wp_iret dX11_tunnel_151 rfl (by obtain rfl := sji h; exact ⟨rfl, rfl, rfl, rfl⟩)
          · have h := ite_f hc13 h
            by_cases hc15 : a3 = 5
            · have h := ite_t hc15 h
              refine wp_tableIn (off := 114) (tgt := 140) dX11_tunnel_26 (by rw [hc15]; decide) (by rw [hc15]; decide) (by rw [hc15]; decide +kernel) (by decide) ?_
              refine wp_aload_n dX11_tunnel_140 rfl rfl ?_
              refine wp_getR dX11_tunnel_141 flX11_29 rfl (sk310 hS) (sn310 hS) (sr310_21 hS) ?_
              refine wp_bipush (v := 7) dX11_tunnel_144 (by decide) ?_
              refine wp_iload_n dX11_tunnel_146 rfl rfl ?_
              refine wp_imul dX11_tunnel_147 ?_
              refine wp_iload_n dX11_tunnel_148 rfl rfl ?_
              refine wp_iadd dX11_tunnel_149 ?_
              obtain ⟨hb16, h⟩ := ck_inv h
              refine wp_iald dX11_tunnel_150 (sk315 hS) (sn315 hS) hb16 ?_
              exact wp_iret dX11_tunnel_151 rfl (by obtain rfl := sji h; exact ⟨rfl, rfl, rfl, rfl⟩)
            · have h := ite_f hc15 h
              by_cases hc17 : a3 = 6
              · have h := ite_t hc17 h
                refine wp_tableIn (off := 114) (tgt := 140) dX11_tunnel_26 (by rw [hc17]; decide) (by rw [hc17]; decide) (by rw [hc17]; decide +kernel) (by decide) ?_
                refine wp_aload_n dX11_tunnel_140 rfl rfl ?_
                refine wp_getR dX11_tunnel_141 flX11_29 rfl (sk310 hS) (sn310 hS) (sr310_21 hS) ?_
                refine wp_bipush (v := 7) dX11_tunnel_144 (by decide) ?_
                refine wp_iload_n dX11_tunnel_146 rfl rfl ?_
                refine wp_imul dX11_tunnel_147 ?_
                refine wp_iload_n dX11_tunnel_148 rfl rfl ?_
                refine wp_iadd dX11_tunnel_149 ?_
                obtain ⟨hb18, h⟩ := ck_inv h
                refine wp_iald dX11_tunnel_150 (sk315 hS) (sn315 hS) hb18 ?_
                exact wp_iret dX11_tunnel_151 rfl (by obtain rfl := sji h; exact ⟨rfl, rfl, rfl, rfl⟩)
              · have h := ite_f hc17 h
                by_cases hc19 : a3 = 7
                · have h := ite_t hc19 h
                  refine wp_tableIn (off := 59) (tgt := 85) dX11_tunnel_26 (by rw [hc19]; decide) (by rw [hc19]; decide) (by rw [hc19]; decide +kernel) (by decide) ?_
                  refine wp_aload_n dX11_tunnel_85 rfl rfl ?_
                  refine wp_iconst (v := 0) dX11_tunnel_86 (by decide) ?_
                  refine wp_iload_n dX11_tunnel_87 rfl rfl ?_
                  obtain ⟨r20, hF21, h⟩ := obi h
                  refine wp_callVi (ci := 11) (As := [.int 0, .int a2]) dX11_tunnel_88 lbX11_doesStand mlX11_219 imX11_doesStand seX11_doesStand vc11 (ct_X11_doesStand 0 (Nat.le_refl _) hS  hF21) rfl rfl (Nat.le_trans (by decide) hd) (sk310 hS) (sn310 hS) (Nat.le_of_ble_eq_true rfl) (fun _ => ?_)
                  refine wp_if_eq (tgt := 98) dX11_tunnel_91 (by decide) (fun hc22 => ?_) (fun hc22 => ?_)
                  · have h := ite_t hc22 h
                    refine wp_iconst (v := 0) dX11_tunnel_98 (by decide) ?_
                    exact wp_iret dX11_tunnel_99 rfl (by obtain rfl := sji h; exact ⟨rfl, rfl, rfl, rfl⟩)
                  · have h := ite_f hc22 h
                    refine wp_iconst (v := 1) dX11_tunnel_94 (by decide) ?_
                    refine wp_goto (tgt := 99) dX11_tunnel_95 (by decide) ?_
                    exact wp_iret dX11_tunnel_99 rfl (by obtain rfl := sji h; exact ⟨rfl, rfl, rfl, rfl⟩)
                · have h := ite_f hc19 h
                  by_cases hc23 : a3 = 8
                  · have h := ite_t hc23 h
                    refine wp_tableIn (off := 74) (tgt := 100) dX11_tunnel_26 (by rw [hc23]; decide) (by rw [hc23]; decide) (by rw [hc23]; decide +kernel) (by decide) ?_
                    refine wp_aload_n dX11_tunnel_100 rfl rfl ?_
                    refine wp_getR dX11_tunnel_101 flX11_35 rfl (sk310 hS) (sn310 hS) (sr310_23 hS) ?_
                    refine wp_bipush (v := 10) dX11_tunnel_104 (by decide) ?_
                    refine wp_iload_n dX11_tunnel_106 rfl rfl ?_
                    refine wp_iadd dX11_tunnel_107 ?_
                    obtain ⟨hb24, h⟩ := ck_inv h
                    refine wp_iald dX11_tunnel_108 (sk317 hS) (sn317 hS) hb24 ?_
                    exact wp_iret dX11_tunnel_109 rfl (by obtain rfl := sji h; exact ⟨rfl, rfl, rfl, rfl⟩)
                  · have h := ite_f hc23 h
                    by_cases hc25 : a3 = 9
                    · have h := ite_t hc25 h
                      refine wp_tableIn (off := 84) (tgt := 110) dX11_tunnel_26 (by rw [hc25]; decide) (by rw [hc25]; decide) (by rw [hc25]; decide +kernel) (by decide) ?_
                      refine wp_aload_n dX11_tunnel_110 rfl rfl ?_
                      refine wp_iconst (v := 0) dX11_tunnel_111 (by decide) ?_
                      refine wp_iload_n dX11_tunnel_112 rfl rfl ?_
                      obtain ⟨r26, hF27, h⟩ := obi h
                      refine wp_callVi (ci := 11) (As := [.int 0, .int a2]) dX11_tunnel_113 lbX11_doesStand mlX11_219 imX11_doesStand seX11_doesStand vc11 (ct_X11_doesStand 0 (Nat.le_refl _) hS  hF27) rfl rfl (Nat.le_trans (by decide) hd) (sk310 hS) (sn310 hS) (Nat.le_of_ble_eq_true rfl) (fun _ => ?_)
                      refine wp_if_eq (tgt := 132) dX11_tunnel_116 (by decide) (fun hc28 => ?_) (fun hc28 => ?_)
                      · have h := ite_t hc28 h
                        refine wp_iconst (v := (-1)) dX11_tunnel_132 (by decide) ?_
                        exact wp_iret dX11_tunnel_133 rfl (by obtain rfl := sji h; exact ⟨rfl, rfl, rfl, rfl⟩)
                      · have h := ite_f hc28 h
                        refine wp_aload_n dX11_tunnel_119 rfl rfl ?_
                        refine wp_aload_n dX11_tunnel_120 rfl rfl ?_
                        refine wp_iconst (v := 0) dX11_tunnel_121 (by decide) ?_
                        refine wp_iload_n dX11_tunnel_122 rfl rfl ?_
                        obtain ⟨r29, hF30, h⟩ := obi h
                        refine wp_callVi (ci := 11) (As := [.int 0, .int a2]) dX11_tunnel_123 lbX11_wayBits mlX11_226 imX11_wayBits seX11_wayBits vc11 (ct_X11_wayBits N 0 (Nat.le_refl _) hS  hF30) rfl rfl (Nat.le_trans (by decide) hd) (sk310 hS) (sn310 hS) (Nat.le_of_ble_eq_true rfl) (fun _ => ?_)
                        obtain ⟨r31, hF32, h⟩ := obi h
                        refine wp_callVi (ci := 11) (As := [.int r29]) dX11_tunnel_126 lbX11_metric mlX11_240 imX11_metric seX11_metric vc11 (ct_X11_metric N 0 (Nat.le_refl _) hS  hF32) rfl rfl (Nat.le_trans (by decide) hd) (sk310 hS) (sn310 hS) (Nat.le_of_ble_eq_true rfl) (fun _ => ?_)
                        refine wp_goto (tgt := 133) dX11_tunnel_129 (by decide) ?_
                        exact wp_iret dX11_tunnel_133 rfl (by obtain rfl := sji h; exact ⟨rfl, rfl, rfl, rfl⟩)
                    · have h := ite_f hc25 h
                      by_cases hc33 : a3 = 10
                      · have h := ite_t hc33 h
                        refine wp_tableIn (off := 108) (tgt := 134) dX11_tunnel_26 (by rw [hc33]; decide) (by rw [hc33]; decide) (by rw [hc33]; decide +kernel) (by decide) ?_
                        refine wp_aload_n dX11_tunnel_134 rfl rfl ?_
                        refine wp_iload_n dX11_tunnel_135 rfl rfl ?_
                        obtain ⟨⟨r34, I35⟩, hF36, h⟩ := obi h
                        refine wp_callVi (ci := 11) (As := [.int a2]) dX11_tunnel_136 lbX11_stretch mlX11_350 imX11_stretch seX11_stretch vc11 (ct_X11_stretch N 4 (Nat.le_refl _) hS  hF36) rfl rfl (Nat.le_trans (by decide) hd) (sk310 hS) (sn310 hS) (Nat.le_of_ble_eq_true rfl) (fun _ => ?_)
                        exact wp_iret dX11_tunnel_139 rfl (by obtain rfl := sji h; exact ⟨rfl, rfl, rfl, rfl⟩)
                      · have h := ite_f hc33 h
                        have hs38 : a3.toInt < 2 ∨ 10 < a3.toInt := by
                          by_cases q9 : a3.toInt < 2 ∨ 10 < a3.toInt
                          · exact q9
                          · exfalso
                            rcases (show a3.toInt = 2 ∨ a3.toInt = 3 ∨ a3.toInt = 4 ∨ a3.toInt = 5 ∨ a3.toInt = 6 ∨ a3.toInt = 7 ∨ a3.toInt = 8 ∨ a3.toInt = 9 ∨ a3.toInt = 10 by omega) with q8 | q8 | q8 | q8 | q8 | q8 | q8 | q8 | q8
                            · exact hc9 (i32e q8)
                            · exact hc11 (i32e q8)
                            · exact hc13 (i32e q8)
                            · exact hc15 (i32e q8)
                            · exact hc17 (i32e q8)
                            · exact hc19 (i32e q8)
                            · exact hc23 (i32e q8)
                            · exact hc25 (i32e q8)
                            · exact hc33 (i32e q8)
                        refine wp_tableOut (tgt := 140) dX11_tunnel_26 hs38 (by decide) ?_
                        refine wp_aload_n dX11_tunnel_140 rfl rfl ?_
                        refine wp_getR dX11_tunnel_141 flX11_29 rfl (sk310 hS) (sn310 hS) (sr310_21 hS) ?_
                        refine wp_bipush (v := 7) dX11_tunnel_144 (by decide) ?_
                        refine wp_iload_n dX11_tunnel_146 rfl rfl ?_
                        refine wp_imul dX11_tunnel_147 ?_
                        refine wp_iload_n dX11_tunnel_148 rfl rfl ?_
                        refine wp_iadd dX11_tunnel_149 ?_
                        obtain ⟨hb37, h⟩ := ck_inv h
                        refine wp_iald dX11_tunnel_150 (sk315 hS) (sn315 hS) hb37 ?_
                        exact wp_iret dX11_tunnel_151 rfl (by obtain rfl := sji h; exact ⟨rfl, rfl, rfl, rfl⟩)
    · have h := ite_t hc8 h
      refine wp_iconst (v := 0) dX11_tunnel_23 (by decide) ?_
      exact wp_iret dX11_tunnel_24 rfl (by obtain rfl := sji h; exact ⟨rfl, rfl, rfl, rfl⟩)
def mX11_way (a2 : Int32) (a3 : Int32) (I : gI) : Option (Int32 × gI) := Option.bind (mX11_isTunnel a2 (upd2 I 310 0 0)) (fun (r1, I2) => if r1 = 0 then (some (0, I2)) else (Option.bind (if a3 < 0 then (some 0) else (ck (10 + a2) 164 (if (I2 317 (10 + a2).toNatClampNeg) ≤ a3 then (some 0) else (some 1))) : Option (Int32)) (fun x5 => Option.bind (mX11_right x5 1 I2) (fun (r9, I10) => if r9 = 0 then (some (0, I10)) else (ck ((19 + (7 * a2)) + a3) 164 (some (I10 317 ((19 + (7 * a2)) + a3).toNatClampNeg, I10)))))))
set_option maxHeartbeats 4000000 in
set_option maxRecDepth 100000 in
theorem ct_X11_way (d : Nat) (hd : 2 ≤ d) {S : gS} {J : gJ} (hS : Sh S)  {a2 : Int32} {a3 : Int32} {I : gI} {r : Int32 × gI} (h : mX11_way a2 a3 I = some r) : Ct yX11_way (wsY yX11_way cX11_way 3 (some .int)) d 0 0 [.ref 310, .int a2, .int a3] S I J (qE (.inl (some (.int r.1))) S r.2 J) := by
  refine Ct.of hF (fun _ _ _ _ _ => trivial) (by decide +kernel) (Nat.le_of_ble_eq_true rfl) ⟨Or.inl (sn310 hS), trivial, trivial, trivial⟩ ?_
  show Wp RX11 cX11_way 3 (some .int) [] hF d 0 0 0 [(0, .ref 310), (1, .int a2), (2, .int a3)] [] S I J _
  unfold mX11_way at h
  refine wp_aload_n dX11_way_0 rfl rfl ?_
  refine wp_iconst (v := 0) dX11_way_1 (by decide) ?_
  refine wp_putI dX11_way_2 (Or.inl fpX11_96) rfl ⟨rfl, rfl⟩ (sk310 hS) (sn310 hS) ?_
  refine wp_aload_n dX11_way_5 rfl rfl ?_
  refine wp_iload_n dX11_way_6 rfl rfl ?_
  obtain ⟨⟨r1, I2⟩, hF3, h⟩ := obi h
  refine wp_callVi (ci := 11) (As := [.int a2]) dX11_way_7 lbX11_isTunnel mlX11_347 imX11_isTunnel seX11_isTunnel vc11 (ct_X11_isTunnel 1 (Nat.le_refl _) hS  hF3) rfl rfl (Nat.le_trans (by decide) hd) (sk310 hS) (sn310 hS) (Nat.le_of_ble_eq_true rfl) (fun _ => ?_)
  refine wp_if_eq (tgt := 43) dX11_way_10 (by decide) (fun hc4 => ?_) (fun hc4 => ?_)
  · have h := ite_t hc4 h
    refine wp_iconst (v := 0) dX11_way_43 (by decide) ?_
    exact wp_iret dX11_way_44 rfl (by obtain rfl := sji h; exact ⟨rfl, rfl, rfl, rfl⟩)
  · have h := ite_f hc4 h
    refine wp_aload_n dX11_way_13 rfl rfl ?_
    refine wp_iload_n dX11_way_14 rfl rfl ?_
    obtain ⟨x5, hh14, h⟩ := obi h
    have hJ : Wp RX11 cX11_way 3 (some .int) [] hF d 0 0 36 [(0, .ref 310), (1, .int a2), (2, .int a3)] [.int x5, .ref 310] S I2 J (qE (.inl (some (.int r.1))) S r.2 J) := by
      refine wp_iconst (v := 1) dX11_way_36 (by decide) ?_
      obtain ⟨⟨r9, I10⟩, hF11, h⟩ := obi h
      refine wp_callVi (ci := 11) (As := [.int x5, .int 1]) dX11_way_37 lbX11_right mlX11_192 imX11_right seX11_right vc11 (ct_X11_right 0 (Nat.le_refl _) hS  hF11) rfl rfl (Nat.le_trans (by decide) hd) (sk310 hS) (sn310 hS) (Nat.le_of_ble_eq_true rfl) (fun _ => ?_)
      refine wp_if_ne (tgt := 45) dX11_way_40 (by decide) (fun hc12 => ?_) (fun hc12 => ?_)
      · have h := ite_f hc12 h
        refine wp_aload_n dX11_way_45 rfl rfl ?_
        refine wp_getR dX11_way_46 flX11_35 rfl (sk310 hS) (sn310 hS) (sr310_23 hS) ?_
        refine wp_bipush (v := 19) dX11_way_49 (by decide) ?_
        refine wp_bipush (v := 7) dX11_way_51 (by decide) ?_
        refine wp_iload_n dX11_way_53 rfl rfl ?_
        refine wp_imul dX11_way_54 ?_
        refine wp_iadd dX11_way_55 ?_
        refine wp_iload_n dX11_way_56 rfl rfl ?_
        refine wp_iadd dX11_way_57 ?_
        obtain ⟨hb13, h⟩ := ck_inv h
        refine wp_iald dX11_way_58 (sk317 hS) (sn317 hS) hb13 ?_
        exact wp_iret dX11_way_59 rfl (by obtain rfl := sji h; exact ⟨rfl, rfl, rfl, rfl⟩)
      · have h := ite_t hc12 h
        refine wp_iconst (v := 0) dX11_way_43 (by decide) ?_
        exact wp_iret dX11_way_44 rfl (by obtain rfl := sji h; exact ⟨rfl, rfl, rfl, rfl⟩)
    clear h
    have h := hh14
    clear hh14
    refine wp_if_lt (tgt := 35) dX11_way_15 (by decide) (fun hc6 => ?_) (fun hc6 => ?_)
    · have h := ite_t hc6 h
      refine wp_iconst (v := 0) dX11_way_35 (by decide) ?_
      cases h
      exact wp_pick (ks := [0, 1, 2]) rfl hJ
    · have h := ite_f hc6 h
      refine wp_iload_n dX11_way_18 rfl rfl ?_
      refine wp_aload_n dX11_way_19 rfl rfl ?_
      refine wp_getR dX11_way_20 flX11_35 rfl (sk310 hS) (sn310 hS) (sr310_23 hS) ?_
      refine wp_bipush (v := 10) dX11_way_23 (by decide) ?_
      refine wp_iload_n dX11_way_25 rfl rfl ?_
      refine wp_iadd dX11_way_26 ?_
      obtain ⟨hb7, h⟩ := ck_inv h
      refine wp_iald dX11_way_27 (sk317 hS) (sn317 hS) hb7 ?_
      refine wp_icmp_ge (tgt := 35) dX11_way_28 (by decide) (fun hc8 => ?_) (fun hc8 => ?_)
      · have h := ite_t hc8 h
        refine wp_iconst (v := 0) dX11_way_35 (by decide) ?_
        cases h
        exact wp_pick (ks := [0, 1, 2]) rfl hJ
      · have h := ite_f hc8 h
        refine wp_iconst (v := 1) dX11_way_31 (by decide) ?_
        refine wp_goto (tgt := 36) dX11_way_32 (by decide) ?_
        cases h
        exact wp_pick (ks := [0, 1, 2]) rfl hJ
def mX11_best (N : Nat) (a2 : Int32) (a3 : Int32) (I : gI) : Option (Int32 × gI) := Option.bind (mX11_isTunnel a2 (upd2 I 310 0 0)) (fun (r1, I2) => if r1 = 0 then (some (0, I2)) else (Option.bind (if a3 < 0 then (some 0) else (some 1) : Option (Int32)) (fun x5 => Option.bind (mX11_right x5 1 I2) (fun (r7, I8) => if r7 = 0 then (some (0, I8)) else (ck (1 + a2) 164 (Option.bind (mX11_hasBest N 0 a2 (I8 317 (1 + a2).toNatClampNeg) I8) (fun (r12, I13) => if r12 = 0 then (some ((-1), I13)) else (if (I13 310 32) ≤ a3 then (some ((-1), I13)) else (ck a3 7 (some (I13 322 a3.toNatClampNeg, I13)))))))))))
set_option maxHeartbeats 4000000 in
set_option maxRecDepth 100000 in
theorem ct_X11_best (N : Nat) (d : Nat) (hd : 4 ≤ d) {S : gS} {J : gJ} (hS : Sh S)  {a2 : Int32} {a3 : Int32} {I : gI} {r : Int32 × gI} (h : mX11_best N a2 a3 I = some r) : Ct yX11_best (wsY yX11_best cX11_best 3 (some .int)) d 0 0 [.ref 310, .int a2, .int a3] S I J (qE (.inl (some (.int r.1))) S r.2 J) := by
  refine Ct.of hF (fun _ _ _ _ _ => trivial) (by decide +kernel) (Nat.le_of_ble_eq_true rfl) ⟨Or.inl (sn310 hS), trivial, trivial, trivial⟩ ?_
  show Wp RX11 cX11_best 3 (some .int) [] hF d 0 0 0 [(0, .ref 310), (1, .int a2), (2, .int a3)] [] S I J _
  unfold mX11_best at h
  refine wp_aload_n dX11_best_0 rfl rfl ?_
  refine wp_iconst (v := 0) dX11_best_1 (by decide) ?_
  refine wp_putI dX11_best_2 (Or.inl fpX11_96) rfl ⟨rfl, rfl⟩ (sk310 hS) (sn310 hS) ?_
  refine wp_aload_n dX11_best_5 rfl rfl ?_
  refine wp_iload_n dX11_best_6 rfl rfl ?_
  obtain ⟨⟨r1, I2⟩, hF3, h⟩ := obi h
  refine wp_callVi (ci := 11) (As := [.int a2]) dX11_best_7 lbX11_isTunnel mlX11_347 imX11_isTunnel seX11_isTunnel vc11 (ct_X11_isTunnel 1 (Nat.le_refl _) hS  hF3) rfl rfl (Nat.le_trans (by decide) hd) (sk310 hS) (sn310 hS) (Nat.le_of_ble_eq_true rfl) (fun _ => ?_)
  refine wp_if_eq (tgt := 30) dX11_best_10 (by decide) (fun hc4 => ?_) (fun hc4 => ?_)
  · have h := ite_t hc4 h
    refine wp_iconst (v := 0) dX11_best_30 (by decide) ?_
    exact wp_iret dX11_best_31 rfl (by obtain rfl := sji h; exact ⟨rfl, rfl, rfl, rfl⟩)
  · have h := ite_f hc4 h
    refine wp_aload_n dX11_best_13 rfl rfl ?_
    refine wp_iload_n dX11_best_14 rfl rfl ?_
    obtain ⟨x5, hh18, h⟩ := obi h
    have hJ : Wp RX11 cX11_best 3 (some .int) [] hF d 0 0 23 [(0, .ref 310), (1, .int a2), (2, .int a3)] [.int x5, .ref 310] S I2 J (qE (.inl (some (.int r.1))) S r.2 J) := by
      refine wp_iconst (v := 1) dX11_best_23 (by decide) ?_
      obtain ⟨⟨r7, I8⟩, hF9, h⟩ := obi h
      refine wp_callVi (ci := 11) (As := [.int x5, .int 1]) dX11_best_24 lbX11_right mlX11_192 imX11_right seX11_right vc11 (ct_X11_right 0 (Nat.le_refl _) hS  hF9) rfl rfl (Nat.le_trans (by decide) hd) (sk310 hS) (sn310 hS) (Nat.le_of_ble_eq_true rfl) (fun _ => ?_)
      refine wp_if_ne (tgt := 32) dX11_best_27 (by decide) (fun hc10 => ?_) (fun hc10 => ?_)
      · have h := ite_f hc10 h
        refine wp_aload_n dX11_best_32 rfl rfl ?_
        refine wp_iconst (v := 0) dX11_best_33 (by decide) ?_
        refine wp_iload_n dX11_best_34 rfl rfl ?_
        refine wp_aload_n dX11_best_35 rfl rfl ?_
        refine wp_getR dX11_best_36 flX11_35 rfl (sk310 hS) (sn310 hS) (sr310_23 hS) ?_
        refine wp_iconst (v := 1) dX11_best_39 (by decide) ?_
        refine wp_iload_n dX11_best_40 rfl rfl ?_
        refine wp_iadd dX11_best_41 ?_
        obtain ⟨hb11, h⟩ := ck_inv h
        refine wp_iald dX11_best_42 (sk317 hS) (sn317 hS) hb11 ?_
        obtain ⟨⟨r12, I13⟩, hF14, h⟩ := obi h
        refine wp_callVi (ci := 11) (As := [.int 0, .int a2, .int (I8 317 (1 + a2).toNatClampNeg)]) dX11_best_43 lbX11_hasBest mlX11_287 imX11_hasBest seX11_hasBest vc11 (ct_X11_hasBest N 3 (Nat.le_refl _) hS  hF14) rfl rfl (Nat.le_trans (by decide) hd) (sk310 hS) (sn310 hS) (Nat.le_of_ble_eq_true rfl) (fun _ => ?_)
        refine wp_if_eq (tgt := 66) dX11_best_46 (by decide) (fun hc15 => ?_) (fun hc15 => ?_)
        · have h := ite_t hc15 h
          refine wp_iconst (v := (-1)) dX11_best_66 (by decide) ?_
          exact wp_iret dX11_best_67 rfl (by obtain rfl := sji h; exact ⟨rfl, rfl, rfl, rfl⟩)
        · have h := ite_f hc15 h
          refine wp_iload_n dX11_best_49 rfl rfl ?_
          refine wp_aload_n dX11_best_50 rfl rfl ?_
          refine wp_getI dX11_best_51 flX11_246 rfl (sk310 hS) (sn310 hS) ?_
          refine wp_icmp_ge (tgt := 66) dX11_best_54 (by decide) (fun hc16 => ?_) (fun hc16 => ?_)
          · have h := ite_t hc16 h
            refine wp_iconst (v := (-1)) dX11_best_66 (by decide) ?_
            exact wp_iret dX11_best_67 rfl (by obtain rfl := sji h; exact ⟨rfl, rfl, rfl, rfl⟩)
          · have h := ite_f hc16 h
            refine wp_aload_n dX11_best_57 rfl rfl ?_
            refine wp_getR dX11_best_58 flX11_51 rfl (sk310 hS) (sn310 hS) (sr310_29 hS) ?_
            refine wp_iload_n dX11_best_61 rfl rfl ?_
            obtain ⟨hb17, h⟩ := ck_inv h
            refine wp_iald dX11_best_62 (sk322 hS) (sn322 hS) hb17 ?_
            refine wp_goto (tgt := 67) dX11_best_63 (by decide) ?_
            exact wp_iret dX11_best_67 rfl (by obtain rfl := sji h; exact ⟨rfl, rfl, rfl, rfl⟩)
      · have h := ite_t hc10 h
        refine wp_iconst (v := 0) dX11_best_30 (by decide) ?_
        exact wp_iret dX11_best_31 rfl (by obtain rfl := sji h; exact ⟨rfl, rfl, rfl, rfl⟩)
    clear h
    have h := hh18
    clear hh18
    refine wp_if_lt (tgt := 22) dX11_best_15 (by decide) (fun hc6 => ?_) (fun hc6 => ?_)
    · have h := ite_t hc6 h
      refine wp_iconst (v := 0) dX11_best_22 (by decide) ?_
      cases h
      exact wp_pick (ks := [0, 1, 2]) rfl hJ
    · have h := ite_f hc6 h
      refine wp_iconst (v := 1) dX11_best_18 (by decide) ?_
      refine wp_goto (tgt := 23) dX11_best_19 (by decide) ?_
      cases h
      exact wp_pick (ks := [0, 1, 2]) rfl hJ
def mX11_pushes (N : Nat) (a2 : Int32) (a3 : Int32) (I : gI) : Option (Int32 × gI) := Option.bind (mX11_isTunnel a2 (upd2 I 310 0 0)) (fun (r1, I2) => if r1 = 0 then (some (0, I2)) else (Option.bind (mX11_isWhat a3 1 I2) (fun (r5, I6) => if r5 = 0 then (some (0, I6)) else (Option.bind (mX11_tries N I6) (fun I9 => ck (1 + a2) 164 (Option.bind (mX11_hasBest N 82 a2 (I9 317 (1 + a2).toNatClampNeg) I9) (fun (r12, I13) => if r12 = 0 then (some ((-1), I13)) else (if a3 = 0 then (Option.bind (mX11_takes N 82 a2 I13) (fun I27 => Option.bind (mX11_pushedBy N 82 a2 I27) (fun r29 => some (r29, I27)))) else (Option.bind (mX11_settles N 82 ((1 : Int32) <<< (a2 &&& 31)) I13) (fun I17 => Option.bind (mX11_standing N 0 I17) (fun r19 => Option.bind (mX11_bits N (r19 &&& (((1 : Int32) <<< (a2 &&& 31)) ^^^ (-1))) I17) (fun r21 => Option.bind (mX11_standing N 82 I17) (fun r23 => Option.bind (mX11_bits N (r23 &&& (((1 : Int32) <<< (a2 &&& 31)) ^^^ (-1))) I17) (fun r25 => some (r21 - r25, I17)))))))))))))))
set_option maxHeartbeats 4000000 in
set_option maxRecDepth 100000 in
theorem ct_X11_pushes (N : Nat) (d : Nat) (hd : 6 ≤ d) {S : gS} {J : gJ} (hS : Sh S)  {a2 : Int32} {a3 : Int32} {I : gI} {r : Int32 × gI} (h : mX11_pushes N a2 a3 I = some r) : Ct yX11_pushes (wsY yX11_pushes cX11_pushes 4 (some .int)) d 0 0 [.ref 310, .int a2, .int a3] S I J (qE (.inl (some (.int r.1))) S r.2 J) := by
  refine Ct.of hF (fun _ _ _ _ _ => trivial) (by decide +kernel) (Nat.le_of_ble_eq_true rfl) ⟨Or.inl (sn310 hS), trivial, trivial, trivial⟩ ?_
  show Wp RX11 cX11_pushes 4 (some .int) [] hF d 0 0 0 [(0, .ref 310), (1, .int a2), (2, .int a3)] [] S I J _
  unfold mX11_pushes at h
  refine wp_aload_n dX11_pushes_0 rfl rfl ?_
  refine wp_iconst (v := 0) dX11_pushes_1 (by decide) ?_
  refine wp_putI dX11_pushes_2 (Or.inl fpX11_96) rfl ⟨rfl, rfl⟩ (sk310 hS) (sn310 hS) ?_
  refine wp_aload_n dX11_pushes_5 rfl rfl ?_
  refine wp_iload_n dX11_pushes_6 rfl rfl ?_
  obtain ⟨⟨r1, I2⟩, hF3, h⟩ := obi h
  refine wp_callVi (ci := 11) (As := [.int a2]) dX11_pushes_7 lbX11_isTunnel mlX11_347 imX11_isTunnel seX11_isTunnel vc11 (ct_X11_isTunnel 1 (Nat.le_refl _) hS  hF3) rfl rfl (Nat.le_trans (by decide) hd) (sk310 hS) (sn310 hS) (Nat.le_of_ble_eq_true rfl) (fun _ => ?_)
  refine wp_if_eq (tgt := 22) dX11_pushes_10 (by decide) (fun hc4 => ?_) (fun hc4 => ?_)
  · have h := ite_t hc4 h
    refine wp_iconst (v := 0) dX11_pushes_22 (by decide) ?_
    exact wp_iret dX11_pushes_23 rfl (by obtain rfl := sji h; exact ⟨rfl, rfl, rfl, rfl⟩)
  · have h := ite_f hc4 h
    refine wp_aload_n dX11_pushes_13 rfl rfl ?_
    refine wp_iload_n dX11_pushes_14 rfl rfl ?_
    refine wp_iconst (v := 1) dX11_pushes_15 (by decide) ?_
    obtain ⟨⟨r5, I6⟩, hF7, h⟩ := obi h
    refine wp_callVi (ci := 11) (As := [.int a3, .int 1]) dX11_pushes_16 lbX11_isWhat mlX11_338 imX11_isWhat seX11_isWhat vc11 (ct_X11_isWhat 1 (Nat.le_refl _) hS  hF7) rfl rfl (Nat.le_trans (by decide) hd) (sk310 hS) (sn310 hS) (Nat.le_of_ble_eq_true rfl) (fun _ => ?_)
    refine wp_if_ne (tgt := 24) dX11_pushes_19 (by decide) (fun hc8 => ?_) (fun hc8 => ?_)
    · have h := ite_f hc8 h
      refine wp_aload_n dX11_pushes_24 rfl rfl ?_
      obtain ⟨I9, hF10, h⟩ := obi h
      refine wp_callVv (ci := 11) (As := []) dX11_pushes_25 lbX11_tries mlX11_303 imX11_tries seX11_tries vc11 (ct_X11_tries N 0 (Nat.le_refl _) hS  hF10) rfl rfl (Nat.le_trans (by decide) hd) (sk310 hS) (sn310 hS) (Nat.le_of_ble_eq_true rfl) (fun _ => ?_)
      refine wp_aload_n dX11_pushes_28 rfl rfl ?_
      refine wp_bipush (v := 82) dX11_pushes_29 (by decide) ?_
      refine wp_iload_n dX11_pushes_31 rfl rfl ?_
      refine wp_aload_n dX11_pushes_32 rfl rfl ?_
      refine wp_getR dX11_pushes_33 flX11_35 rfl (sk310 hS) (sn310 hS) (sr310_23 hS) ?_
      refine wp_iconst (v := 1) dX11_pushes_36 (by decide) ?_
      refine wp_iload_n dX11_pushes_37 rfl rfl ?_
      refine wp_iadd dX11_pushes_38 ?_
      obtain ⟨hb11, h⟩ := ck_inv h
      refine wp_iald dX11_pushes_39 (sk317 hS) (sn317 hS) hb11 ?_
      obtain ⟨⟨r12, I13⟩, hF14, h⟩ := obi h
      refine wp_callVi (ci := 11) (As := [.int 82, .int a2, .int (I9 317 (1 + a2).toNatClampNeg)]) dX11_pushes_40 lbX11_hasBest mlX11_287 imX11_hasBest seX11_hasBest vc11 (ct_X11_hasBest N 3 (Nat.le_refl _) hS  hF14) rfl rfl (Nat.le_trans (by decide) hd) (sk310 hS) (sn310 hS) (Nat.le_of_ble_eq_true rfl) (fun _ => ?_)
      refine wp_if_ne (tgt := 48) dX11_pushes_43 (by decide) (fun hc15 => ?_) (fun hc15 => ?_)
      · have h := ite_f hc15 h
        refine wp_iload_n dX11_pushes_48 rfl rfl ?_
        refine wp_if_ne (tgt := 67) dX11_pushes_49 (by decide) (fun hc16 => ?_) (fun hc16 => ?_)
        · have h := ite_f hc16 h
          refine wp_aload_n dX11_pushes_67 rfl rfl ?_
          refine wp_bipush (v := 82) dX11_pushes_68 (by decide) ?_
          refine wp_iconst (v := 1) dX11_pushes_70 (by decide) ?_
          refine wp_iload_n dX11_pushes_71 rfl rfl ?_
          refine wp_ishl dX11_pushes_72 ?_
          obtain ⟨I17, hF18, h⟩ := obi h
          refine wp_callVv (ci := 11) (As := [.int 82, .int ((1 : Int32) <<< (a2 &&& 31))]) dX11_pushes_73 lbX11_settles mlX11_300 imX11_settles seX11_settles vc11 (ct_X11_settles N 5 (Nat.le_refl _) hS  hF18) rfl rfl (Nat.le_trans (by decide) hd) (sk310 hS) (sn310 hS) (Nat.le_of_ble_eq_true rfl) (fun _ => ?_)
          refine wp_iconst (v := 1) dX11_pushes_76 (by decide) ?_
          refine wp_iload_n dX11_pushes_77 rfl rfl ?_
          refine wp_ishl dX11_pushes_78 ?_
          refine wp_iconst (v := (-1)) dX11_pushes_79 (by decide) ?_
          refine wp_ixor dX11_pushes_80 ?_
          refine wp_istore_n (ls' := [(3, .int (((1 : Int32) <<< (a2 &&& 31)) ^^^ (-1))), (0, .ref 310), (1, .int a2), (2, .int a3)]) dX11_pushes_81 rfl (Nat.le_of_ble_eq_true rfl) rfl ?_
          refine wp_aload_n dX11_pushes_82 rfl rfl ?_
          refine wp_iconst (v := 0) dX11_pushes_83 (by decide) ?_
          obtain ⟨r19, hF20, h⟩ := obi h
          refine wp_callVi (ci := 11) (As := [.int 0]) dX11_pushes_84 lbX11_standing mlX11_309 imX11_standing seX11_standing vc11 (ct_X11_standing N 1 (Nat.le_refl _) hS  hF20) rfl rfl (Nat.le_trans (by decide) hd) (sk310 hS) (sn310 hS) (Nat.le_of_ble_eq_true rfl) (fun _ => ?_)
          refine wp_iload_n dX11_pushes_87 rfl rfl ?_
          refine wp_iand dX11_pushes_88 ?_
          obtain ⟨r21, hF22, h⟩ := obi h
          refine wp_callSi (As := [.int (r19 &&& (((1 : Int32) <<< (a2 &&& 31)) ^^^ (-1)))]) dX11_pushes_89 lbX11_bits mlX11_275 smX11_bits (ct_X11_bits N 0 (Nat.le_refl _) hS  hF22) rfl rfl (Nat.le_trans (by decide) hd) (Nat.le_of_ble_eq_true rfl) (fun _ => ?_)
          refine wp_aload_n dX11_pushes_92 rfl rfl ?_
          refine wp_bipush (v := 82) dX11_pushes_93 (by decide) ?_
          obtain ⟨r23, hF24, h⟩ := obi h
          refine wp_callVi (ci := 11) (As := [.int 82]) dX11_pushes_95 lbX11_standing mlX11_309 imX11_standing seX11_standing vc11 (ct_X11_standing N 1 (Nat.le_refl _) hS  hF24) rfl rfl (Nat.le_trans (by decide) hd) (sk310 hS) (sn310 hS) (Nat.le_of_ble_eq_true rfl) (fun _ => ?_)
          refine wp_iload_n dX11_pushes_98 rfl rfl ?_
          refine wp_iand dX11_pushes_99 ?_
          obtain ⟨r25, hF26, h⟩ := obi h
          refine wp_callSi (As := [.int (r23 &&& (((1 : Int32) <<< (a2 &&& 31)) ^^^ (-1)))]) dX11_pushes_100 lbX11_bits mlX11_275 smX11_bits (ct_X11_bits N 0 (Nat.le_refl _) hS  hF26) rfl rfl (Nat.le_trans (by decide) hd) (Nat.le_of_ble_eq_true rfl) (fun _ => ?_)
          refine wp_isub dX11_pushes_103 ?_
          exact wp_iret dX11_pushes_104 rfl (by obtain rfl := sji h; exact ⟨rfl, rfl, rfl, rfl⟩)
        · have h := ite_t hc16 h
          refine wp_aload_n dX11_pushes_52 rfl rfl ?_
          refine wp_bipush (v := 82) dX11_pushes_53 (by decide) ?_
          refine wp_iload_n dX11_pushes_55 rfl rfl ?_
          obtain ⟨I27, hF28, h⟩ := obi h
          refine wp_callVv (ci := 11) (As := [.int 82, .int a2]) dX11_pushes_56 lbX11_takes mlX11_290 imX11_takes seX11_takes vc11 (ct_X11_takes N 0 (Nat.le_refl _) hS  hF28) rfl rfl (Nat.le_trans (by decide) hd) (sk310 hS) (sn310 hS) (Nat.le_of_ble_eq_true rfl) (fun _ => ?_)
          refine wp_aload_n dX11_pushes_59 rfl rfl ?_
          refine wp_bipush (v := 82) dX11_pushes_60 (by decide) ?_
          refine wp_iload_n dX11_pushes_62 rfl rfl ?_
          obtain ⟨r29, hF30, h⟩ := obi h
          refine wp_callVi (ci := 11) (As := [.int 82, .int a2]) dX11_pushes_63 lbX11_pushedBy mlX11_294 imX11_pushedBy seX11_pushedBy vc11 (ct_X11_pushedBy N 4 (Nat.le_refl _) hS  hF30) rfl rfl (Nat.le_trans (by decide) hd) (sk310 hS) (sn310 hS) (Nat.le_of_ble_eq_true rfl) (fun _ => ?_)
          exact wp_iret dX11_pushes_66 rfl (by obtain rfl := sji h; exact ⟨rfl, rfl, rfl, rfl⟩)
      · have h := ite_t hc15 h
        refine wp_iconst (v := (-1)) dX11_pushes_46 (by decide) ?_
        exact wp_iret dX11_pushes_47 rfl (by obtain rfl := sji h; exact ⟨rfl, rfl, rfl, rfl⟩)
    · have h := ite_t hc8 h
      refine wp_iconst (v := 0) dX11_pushes_22 (by decide) ?_
      exact wp_iret dX11_pushes_23 rfl (by obtain rfl := sji h; exact ⟨rfl, rfl, rfl, rfl⟩)
def mX11_setUp (N : Nat) (a2 : Int32) (I : gI) : Option (Int32 × gI) := Option.bind (mX11_isTunnel a2 (upd2 I 310 0 0)) (fun (r1, I2) => if r1 = 0 then (some (0, I2)) else (Option.bind (mX11_doesStand 0 a2 I2) (fun r5 => if r5 = 0 then (ck (1 + a2) 164 (Option.bind (mX11_hasBest N 0 a2 (I2 317 (1 + a2).toNatClampNeg) I2) (fun (r12, I13) => if r12 = 0 then (Option.bind (mX11_refuses 1 I13) (fun (r20, I21) => some (r20, I21))) else (Option.bind (mX11_keeps N I13) (fun I16 => Option.bind (mX11_settles N 0 ((1 : Int32) <<< (a2 &&& 31)) (upd2 I16 310 36 0)) (fun I18 => some (I18 310 36, I18))))))) else (Option.bind (mX11_refuses 1 I2) (fun (r8, I9) => some (r8, I9))))))
set_option maxHeartbeats 4000000 in
set_option maxRecDepth 100000 in
theorem ct_X11_setUp (N : Nat) (d : Nat) (hd : 6 ≤ d) {S : gS} {J : gJ} (hS : Sh S)  {a2 : Int32} {I : gI} {r : Int32 × gI} (h : mX11_setUp N a2 I = some r) : Ct yX11_setUp (wsY yX11_setUp cX11_setUp 2 (some .int)) d 0 0 [.ref 310, .int a2] S I J (qE (.inl (some (.int r.1))) S r.2 J) := by
  refine Ct.of hF (fun _ _ _ _ _ => trivial) (by decide +kernel) (Nat.le_of_ble_eq_true rfl) ⟨Or.inl (sn310 hS), trivial, trivial⟩ ?_
  show Wp RX11 cX11_setUp 2 (some .int) [] hF d 0 0 0 [(0, .ref 310), (1, .int a2)] [] S I J _
  unfold mX11_setUp at h
  refine wp_aload_n dX11_setUp_0 rfl rfl ?_
  refine wp_iconst (v := 0) dX11_setUp_1 (by decide) ?_
  refine wp_putI dX11_setUp_2 (Or.inl fpX11_96) rfl ⟨rfl, rfl⟩ (sk310 hS) (sn310 hS) ?_
  refine wp_aload_n dX11_setUp_5 rfl rfl ?_
  refine wp_iload_n dX11_setUp_6 rfl rfl ?_
  obtain ⟨⟨r1, I2⟩, hF3, h⟩ := obi h
  refine wp_callVi (ci := 11) (As := [.int a2]) dX11_setUp_7 lbX11_isTunnel mlX11_347 imX11_isTunnel seX11_isTunnel vc11 (ct_X11_isTunnel 1 (Nat.le_refl _) hS  hF3) rfl rfl (Nat.le_trans (by decide) hd) (sk310 hS) (sn310 hS) (Nat.le_of_ble_eq_true rfl) (fun _ => ?_)
  refine wp_if_ne (tgt := 15) dX11_setUp_10 (by decide) (fun hc4 => ?_) (fun hc4 => ?_)
  · have h := ite_f hc4 h
    refine wp_aload_n dX11_setUp_15 rfl rfl ?_
    refine wp_iconst (v := 0) dX11_setUp_16 (by decide) ?_
    refine wp_iload_n dX11_setUp_17 rfl rfl ?_
    obtain ⟨r5, hF6, h⟩ := obi h
    refine wp_callVi (ci := 11) (As := [.int 0, .int a2]) dX11_setUp_18 lbX11_doesStand mlX11_219 imX11_doesStand seX11_doesStand vc11 (ct_X11_doesStand 0 (Nat.le_refl _) hS  hF6) rfl rfl (Nat.le_trans (by decide) hd) (sk310 hS) (sn310 hS) (Nat.le_of_ble_eq_true rfl) (fun _ => ?_)
    refine wp_if_ne (tgt := 41) dX11_setUp_21 (by decide) (fun hc7 => ?_) (fun hc7 => ?_)
    · have h := ite_f hc7 h
      refine wp_aload_n dX11_setUp_41 rfl rfl ?_
      refine wp_iconst (v := 1) dX11_setUp_42 (by decide) ?_
      obtain ⟨⟨r8, I9⟩, hF10, h⟩ := obi h
      refine wp_callVi (ci := 11) (As := [.int 1]) dX11_setUp_43 lbX11_refuses mlX11_353 imX11_refuses seX11_refuses vc11 (ct_X11_refuses 0 (Nat.le_refl _) hS  hF10) rfl rfl (Nat.le_trans (by decide) hd) (sk310 hS) (sn310 hS) (Nat.le_of_ble_eq_true rfl) (fun _ => ?_)
      exact wp_iret dX11_setUp_46 rfl (by obtain rfl := sji h; exact ⟨rfl, rfl, rfl, rfl⟩)
    · have h := ite_t hc7 h
      refine wp_aload_n dX11_setUp_24 rfl rfl ?_
      refine wp_iconst (v := 0) dX11_setUp_25 (by decide) ?_
      refine wp_iload_n dX11_setUp_26 rfl rfl ?_
      refine wp_aload_n dX11_setUp_27 rfl rfl ?_
      refine wp_getR dX11_setUp_28 flX11_35 rfl (sk310 hS) (sn310 hS) (sr310_23 hS) ?_
      refine wp_iconst (v := 1) dX11_setUp_31 (by decide) ?_
      refine wp_iload_n dX11_setUp_32 rfl rfl ?_
      refine wp_iadd dX11_setUp_33 ?_
      obtain ⟨hb11, h⟩ := ck_inv h
      refine wp_iald dX11_setUp_34 (sk317 hS) (sn317 hS) hb11 ?_
      obtain ⟨⟨r12, I13⟩, hF14, h⟩ := obi h
      refine wp_callVi (ci := 11) (As := [.int 0, .int a2, .int (I2 317 (1 + a2).toNatClampNeg)]) dX11_setUp_35 lbX11_hasBest mlX11_287 imX11_hasBest seX11_hasBest vc11 (ct_X11_hasBest N 3 (Nat.le_refl _) hS  hF14) rfl rfl (Nat.le_trans (by decide) hd) (sk310 hS) (sn310 hS) (Nat.le_of_ble_eq_true rfl) (fun _ => ?_)
      refine wp_if_ne (tgt := 47) dX11_setUp_38 (by decide) (fun hc15 => ?_) (fun hc15 => ?_)
      · have h := ite_f hc15 h
        refine wp_aload_n dX11_setUp_47 rfl rfl ?_
        obtain ⟨I16, hF17, h⟩ := obi h
        refine wp_callVv (ci := 11) (As := []) dX11_setUp_48 lbX11_keeps mlX11_356 imX11_keeps seX11_keeps vc11 (ct_X11_keeps N 0 (Nat.le_refl _) hS  hF17) rfl rfl (Nat.le_trans (by decide) hd) (sk310 hS) (sn310 hS) (Nat.le_of_ble_eq_true rfl) (fun _ => ?_)
        refine wp_aload_n dX11_setUp_51 rfl rfl ?_
        refine wp_iconst (v := 0) dX11_setUp_52 (by decide) ?_
        refine wp_putI dX11_setUp_53 (Or.inl fpX11_297) rfl ⟨rfl, rfl⟩ (sk310 hS) (sn310 hS) ?_
        refine wp_aload_n dX11_setUp_56 rfl rfl ?_
        refine wp_iconst (v := 0) dX11_setUp_57 (by decide) ?_
        refine wp_iconst (v := 1) dX11_setUp_58 (by decide) ?_
        refine wp_iload_n dX11_setUp_59 rfl rfl ?_
        refine wp_ishl dX11_setUp_60 ?_
        obtain ⟨I18, hF19, h⟩ := obi h
        refine wp_callVv (ci := 11) (As := [.int 0, .int ((1 : Int32) <<< (a2 &&& 31))]) dX11_setUp_61 lbX11_settles mlX11_300 imX11_settles seX11_settles vc11 (ct_X11_settles N 5 (Nat.le_refl _) hS  hF19) rfl rfl (Nat.le_trans (by decide) hd) (sk310 hS) (sn310 hS) (Nat.le_of_ble_eq_true rfl) (fun _ => ?_)
        refine wp_aload_n dX11_setUp_64 rfl rfl ?_
        refine wp_getI dX11_setUp_65 flX11_297 rfl (sk310 hS) (sn310 hS) ?_
        exact wp_iret dX11_setUp_68 rfl (by obtain rfl := sji h; exact ⟨rfl, rfl, rfl, rfl⟩)
      · have h := ite_t hc15 h
        refine wp_aload_n dX11_setUp_41 rfl rfl ?_
        refine wp_iconst (v := 1) dX11_setUp_42 (by decide) ?_
        obtain ⟨⟨r20, I21⟩, hF22, h⟩ := obi h
        refine wp_callVi (ci := 11) (As := [.int 1]) dX11_setUp_43 lbX11_refuses mlX11_353 imX11_refuses seX11_refuses vc11 (ct_X11_refuses 0 (Nat.le_refl _) hS  hF22) rfl rfl (Nat.le_trans (by decide) hd) (sk310 hS) (sn310 hS) (Nat.le_of_ble_eq_true rfl) (fun _ => ?_)
        exact wp_iret dX11_setUp_46 rfl (by obtain rfl := sji h; exact ⟨rfl, rfl, rfl, rfl⟩)
  · have h := ite_t hc4 h
    refine wp_iconst (v := 0) dX11_setUp_13 (by decide) ?_
    exact wp_iret dX11_setUp_14 rfl (by obtain rfl := sji h; exact ⟨rfl, rfl, rfl, rfl⟩)
def mX11_tearDown (N : Nat) (a2 : Int32) (I : gI) : Option (Int32 × gI) := Option.bind (mX11_isTunnel a2 (upd2 I 310 0 0)) (fun (r1, I2) => if r1 = 0 then (some (0, I2)) else (Option.bind (mX11_doesStand 0 a2 I2) (fun r5 => if r5 = 0 then (Option.bind (mX11_refuses 1 I2) (fun (r11, I12) => if r11 ≤ 0 then (some (0, I12)) else (some (1, I12)))) else (Option.bind (mX11_keeps N I2) (fun I8 => ck (10 + a2) 164 (some (1, upd2 I8 317 (10 + a2).toNatClampNeg (-1))))))))
set_option maxHeartbeats 4000000 in
set_option maxRecDepth 100000 in
theorem ct_X11_tearDown (N : Nat) (d : Nat) (hd : 2 ≤ d) {S : gS} {J : gJ} (hS : Sh S)  {a2 : Int32} {I : gI} {r : Int32 × gI} (h : mX11_tearDown N a2 I = some r) : Ct yX11_tearDown (wsY yX11_tearDown cX11_tearDown 2 (some .boolean)) d 0 0 [.ref 310, .int a2] S I J (qE (.inl (some (.int r.1))) S r.2 J) := by
  refine Ct.of hF (fun _ _ _ _ _ => trivial) (by decide +kernel) (Nat.le_of_ble_eq_true rfl) ⟨Or.inl (sn310 hS), trivial, trivial⟩ ?_
  show Wp RX11 cX11_tearDown 2 (some .boolean) [] hF d 0 0 0 [(0, .ref 310), (1, .int a2)] [] S I J _
  unfold mX11_tearDown at h
  refine wp_aload_n dX11_tearDown_0 rfl rfl ?_
  refine wp_iconst (v := 0) dX11_tearDown_1 (by decide) ?_
  refine wp_putI dX11_tearDown_2 (Or.inl fpX11_96) rfl ⟨rfl, rfl⟩ (sk310 hS) (sn310 hS) ?_
  refine wp_aload_n dX11_tearDown_5 rfl rfl ?_
  refine wp_iload_n dX11_tearDown_6 rfl rfl ?_
  obtain ⟨⟨r1, I2⟩, hF3, h⟩ := obi h
  refine wp_callVi (ci := 11) (As := [.int a2]) dX11_tearDown_7 lbX11_isTunnel mlX11_347 imX11_isTunnel seX11_isTunnel vc11 (ct_X11_isTunnel 1 (Nat.le_refl _) hS  hF3) rfl rfl (Nat.le_trans (by decide) hd) (sk310 hS) (sn310 hS) (Nat.le_of_ble_eq_true rfl) (fun _ => ?_)
  refine wp_if_ne (tgt := 15) dX11_tearDown_10 (by decide) (fun hc4 => ?_) (fun hc4 => ?_)
  · have h := ite_f hc4 h
    refine wp_aload_n dX11_tearDown_15 rfl rfl ?_
    refine wp_iconst (v := 0) dX11_tearDown_16 (by decide) ?_
    refine wp_iload_n dX11_tearDown_17 rfl rfl ?_
    obtain ⟨r5, hF6, h⟩ := obi h
    refine wp_callVi (ci := 11) (As := [.int 0, .int a2]) dX11_tearDown_18 lbX11_doesStand mlX11_219 imX11_doesStand seX11_doesStand vc11 (ct_X11_doesStand 0 (Nat.le_refl _) hS  hF6) rfl rfl (Nat.le_trans (by decide) hd) (sk310 hS) (sn310 hS) (Nat.le_of_ble_eq_true rfl) (fun _ => ?_)
    refine wp_if_ne (tgt := 38) dX11_tearDown_21 (by decide) (fun hc7 => ?_) (fun hc7 => ?_)
    · have h := ite_f hc7 h
      refine wp_aload_n dX11_tearDown_38 rfl rfl ?_
      obtain ⟨I8, hF9, h⟩ := obi h
      refine wp_callVv (ci := 11) (As := []) dX11_tearDown_39 lbX11_keeps mlX11_356 imX11_keeps seX11_keeps vc11 (ct_X11_keeps N 0 (Nat.le_refl _) hS  hF9) rfl rfl (Nat.le_trans (by decide) hd) (sk310 hS) (sn310 hS) (Nat.le_of_ble_eq_true rfl) (fun _ => ?_)
      refine wp_aload_n dX11_tearDown_42 rfl rfl ?_
      refine wp_getR dX11_tearDown_43 flX11_35 rfl (sk310 hS) (sn310 hS) (sr310_23 hS) ?_
      refine wp_bipush (v := 10) dX11_tearDown_46 (by decide) ?_
      refine wp_iload_n dX11_tearDown_48 rfl rfl ?_
      refine wp_iadd dX11_tearDown_49 ?_
      refine wp_iconst (v := (-1)) dX11_tearDown_50 (by decide) ?_
      obtain ⟨hb10, h⟩ := ck_inv h
      refine wp_iast dX11_tearDown_51 (sk317 hS) (sn317 hS) hb10 ?_
      refine wp_iconst (v := 1) dX11_tearDown_52 (by decide) ?_
      exact wp_zret dX11_tearDown_53 rfl (by decide) (by obtain rfl := sji h; exact ⟨rfl, rfl, rfl, rfl⟩)
    · have h := ite_t hc7 h
      refine wp_aload_n dX11_tearDown_24 rfl rfl ?_
      refine wp_iconst (v := 1) dX11_tearDown_25 (by decide) ?_
      obtain ⟨⟨r11, I12⟩, hF13, h⟩ := obi h
      refine wp_callVi (ci := 11) (As := [.int 1]) dX11_tearDown_26 lbX11_refuses mlX11_353 imX11_refuses seX11_refuses vc11 (ct_X11_refuses 0 (Nat.le_refl _) hS  hF13) rfl rfl (Nat.le_trans (by decide) hd) (sk310 hS) (sn310 hS) (Nat.le_of_ble_eq_true rfl) (fun _ => ?_)
      refine wp_if_le (tgt := 36) dX11_tearDown_29 (by decide) (fun hc14 => ?_) (fun hc14 => ?_)
      · have h := ite_t hc14 h
        refine wp_iconst (v := 0) dX11_tearDown_36 (by decide) ?_
        exact wp_zret dX11_tearDown_37 rfl (by decide) (by obtain rfl := sji h; exact ⟨rfl, rfl, rfl, rfl⟩)
      · have h := ite_f hc14 h
        refine wp_iconst (v := 1) dX11_tearDown_32 (by decide) ?_
        refine wp_goto (tgt := 37) dX11_tearDown_33 (by decide) ?_
        exact wp_zret dX11_tearDown_37 rfl (by decide) (by obtain rfl := sji h; exact ⟨rfl, rfl, rfl, rfl⟩)
  · have h := ite_t hc4 h
    refine wp_iconst (v := 0) dX11_tearDown_13 (by decide) ?_
    exact wp_zret dX11_tearDown_14 rfl (by decide) (by obtain rfl := sji h; exact ⟨rfl, rfl, rfl, rfl⟩)
def mX11_isAsBest_24 (k1 : Int32) (I : gI) : Nat → Int32 → Int32 → Option (Int32)
  | 0, _, _ => none
  | n + 1, v2, v3 => if (I 310 32) ≤ v3 then (some v2) else (if v2 = 0 then (some v2) else (ck ((19 + (7 * k1)) + v3) 164 (ck v3 7 (if (I 317 ((19 + (7 * k1)) + v3).toNatClampNeg) = (I 322 v3.toNatClampNeg) then (mX11_isAsBest_24 k1 I n 1 (v3 + 1)) else (mX11_isAsBest_24 k1 I n 0 (v3 + 1))))))
def mX11_isAsBest (N : Nat) (a2 : Int32) (I : gI) : Option (Int32) := ck (10 + a2) 164 (Option.bind (if (I 317 (10 + a2).toNatClampNeg) = (I 310 32) then (some 1) else (some 0) : Option (Int32)) (fun x2 => Option.bind (mX11_isAsBest_24 a2 I N x2 0) (fun y9 => zo y9 (some y9))))
set_option maxHeartbeats 4000000 in
set_option maxRecDepth 100000 in
theorem wX11_isAsBest_24 (d : Nat) (hd : 0 ≤ d) {S : gS} {J : gJ} (hS : Sh S)  (k1 : Int32) (I : gI) {Q : gO → gS → gI → gJ → Prop} :
    ∀ (n : Nat) (v2 : Int32) (v3 : Int32) (res : Int32), mX11_isAsBest_24 k1 I n v2 v3 = some res → (∀ (o2 : Int32), res = o2 → Wp RX11 cX11_isAsBest 4 (some .boolean) [] hF d 0 0 71 [(2, .int o2)] [] S I J Q) → Wp RX11 cX11_isAsBest 4 (some .boolean) [] hF d 0 0 24 [(0, .ref 310), (1, .int k1), (2, .int v2), (3, .int v3)] [] S I J Q := by
  intro n
  induction n with
  | zero => intro v2 v3 res h; exact nso h
  | succ n ih =>
    intro v2 v3 res h kx
    rw [mX11_isAsBest_24] at h
    refine wp_iload_n dX11_isAsBest_24 rfl rfl ?_
    refine wp_aload_n dX11_isAsBest_25 rfl rfl ?_
    refine wp_getI dX11_isAsBest_26 flX11_246 rfl (sk310 hS) (sn310 hS) ?_
    refine wp_icmp_ge (tgt := 71) dX11_isAsBest_29 (by decide) (fun hc4 => ?_) (fun hc4 => ?_)
    · have h := ite_t hc4 h
      exact wp_pick (ks := [2]) rfl (kx _ (sji h).symm)
    · have h := ite_f hc4 h
      refine wp_iload_n dX11_isAsBest_32 rfl rfl ?_
      refine wp_if_eq (tgt := 71) dX11_isAsBest_33 (by decide) (fun hc5 => ?_) (fun hc5 => ?_)
      · have h := ite_t hc5 h
        exact wp_pick (ks := [2]) rfl (kx _ (sji h).symm)
      · have h := ite_f hc5 h
        refine wp_aload_n dX11_isAsBest_36 rfl rfl ?_
        refine wp_getR dX11_isAsBest_37 flX11_35 rfl (sk310 hS) (sn310 hS) (sr310_23 hS) ?_
        refine wp_bipush (v := 19) dX11_isAsBest_40 (by decide) ?_
        refine wp_bipush (v := 7) dX11_isAsBest_42 (by decide) ?_
        refine wp_iload_n dX11_isAsBest_44 rfl rfl ?_
        refine wp_imul dX11_isAsBest_45 ?_
        refine wp_iadd dX11_isAsBest_46 ?_
        refine wp_iload_n dX11_isAsBest_47 rfl rfl ?_
        refine wp_iadd dX11_isAsBest_48 ?_
        obtain ⟨hb6, h⟩ := ck_inv h
        refine wp_iald dX11_isAsBest_49 (sk317 hS) (sn317 hS) hb6 ?_
        refine wp_aload_n dX11_isAsBest_50 rfl rfl ?_
        refine wp_getR dX11_isAsBest_51 flX11_51 rfl (sk310 hS) (sn310 hS) (sr310_29 hS) ?_
        refine wp_iload_n dX11_isAsBest_54 rfl rfl ?_
        obtain ⟨hb7, h⟩ := ck_inv h
        refine wp_iald dX11_isAsBest_55 (sk322 hS) (sn322 hS) hb7 ?_
        refine wp_icmp_ne (tgt := 63) dX11_isAsBest_56 (by decide) (fun hc8 => ?_) (fun hc8 => ?_)
        · have h := ite_f hc8 h
          refine wp_iconst (v := 0) dX11_isAsBest_63 (by decide) ?_
          refine wp_istore_n (ls' := [(2, .int 0), (0, .ref 310), (1, .int k1), (3, .int v3)]) dX11_isAsBest_64 rfl (Nat.le_of_ble_eq_true rfl) rfl ?_
          refine wp_iinc (v := 1) (ls' := [(3, .int (v3 + 1)), (2, .int 0), (0, .ref 310), (1, .int k1)]) dX11_isAsBest_65 rfl (by decide) (Nat.le_of_ble_eq_true rfl) rfl ?_
          refine wp_goto (tgt := 24) dX11_isAsBest_68 (by decide) ?_
          exact wp_pick (ks := [2, 3, 1, 0]) rfl (ih _ _ _ h kx)
        · have h := ite_t hc8 h
          refine wp_iconst (v := 1) dX11_isAsBest_59 (by decide) ?_
          refine wp_goto (tgt := 64) dX11_isAsBest_60 (by decide) ?_
          refine wp_istore_n (ls' := [(2, .int 1), (0, .ref 310), (1, .int k1), (3, .int v3)]) dX11_isAsBest_64 rfl (Nat.le_of_ble_eq_true rfl) rfl ?_
          refine wp_iinc (v := 1) (ls' := [(3, .int (v3 + 1)), (2, .int 1), (0, .ref 310), (1, .int k1)]) dX11_isAsBest_65 rfl (by decide) (Nat.le_of_ble_eq_true rfl) rfl ?_
          refine wp_goto (tgt := 24) dX11_isAsBest_68 (by decide) ?_
          exact wp_pick (ks := [2, 3, 1, 0]) rfl (ih _ _ _ h kx)
set_option maxHeartbeats 4000000 in
set_option maxRecDepth 100000 in
theorem ct_X11_isAsBest (N : Nat) (d : Nat) (hd : 0 ≤ d) {S : gS} {J : gJ} (hS : Sh S)  {a2 : Int32} {I : gI} {r : Int32} (h : mX11_isAsBest N a2 I = some r) : Ct yX11_isAsBest (wsY yX11_isAsBest cX11_isAsBest 4 (some .boolean)) d 0 0 [.ref 310, .int a2] S I J (qE (.inl (some (.int r))) S I J) := by
  refine Ct.of hF (fun _ _ _ _ _ => trivial) (by decide +kernel) (Nat.le_of_ble_eq_true rfl) ⟨Or.inl (sn310 hS), trivial, trivial⟩ ?_
  show Wp RX11 cX11_isAsBest 4 (some .boolean) [] hF d 0 0 0 [(0, .ref 310), (1, .int a2)] [] S I J _
  unfold mX11_isAsBest at h
  refine wp_aload_n dX11_isAsBest_0 rfl rfl ?_
  refine wp_getR dX11_isAsBest_1 flX11_35 rfl (sk310 hS) (sn310 hS) (sr310_23 hS) ?_
  refine wp_bipush (v := 10) dX11_isAsBest_4 (by decide) ?_
  refine wp_iload_n dX11_isAsBest_6 rfl rfl ?_
  refine wp_iadd dX11_isAsBest_7 ?_
  obtain ⟨hb1, h⟩ := ck_inv h
  refine wp_iald dX11_isAsBest_8 (sk317 hS) (sn317 hS) hb1 ?_
  refine wp_aload_n dX11_isAsBest_9 rfl rfl ?_
  refine wp_getI dX11_isAsBest_10 flX11_246 rfl (sk310 hS) (sn310 hS) ?_
  obtain ⟨x2, hh13, h⟩ := obi h
  have hJ : Wp RX11 cX11_isAsBest 4 (some .boolean) [] hF d 0 0 21 [(0, .ref 310), (1, .int a2)] [.int x2] S I J (qE (.inl (some (.int r))) S I J) := by
    refine wp_istore_n (ls' := [(2, .int x2), (0, .ref 310), (1, .int a2)]) dX11_isAsBest_21 rfl (Nat.le_of_ble_eq_true rfl) rfl ?_
    refine wp_iconst (v := 0) dX11_isAsBest_22 (by decide) ?_
    refine wp_istore_n (ls' := [(3, .int 0), (2, .int x2), (0, .ref 310), (1, .int a2)]) dX11_isAsBest_23 rfl (Nat.le_of_ble_eq_true rfl) rfl ?_
    obtain ⟨y9, hL911, h⟩ := obi h
    refine wp_pick (ks := [2, 3, 1, 0]) rfl (wX11_isAsBest_24 d hd hS  a2 I N x2 0 _ hL911 (fun _ e12 => ?_))
    cases e12
    refine wp_iload_n dX11_isAsBest_71 rfl rfl ?_
    obtain ⟨hz10, h⟩ := zo_inv h
    exact wp_zret dX11_isAsBest_72 rfl hz10 (by obtain rfl := sji h; exact ⟨rfl, rfl, rfl, rfl⟩)
  clear h
  have h := hh13
  clear hh13
  refine wp_icmp_ne (tgt := 20) dX11_isAsBest_13 (by decide) (fun hc3 => ?_) (fun hc3 => ?_)
  · have h := ite_f hc3 h
    refine wp_iconst (v := 0) dX11_isAsBest_20 (by decide) ?_
    cases h
    exact wp_pick (ks := [0, 1]) rfl hJ
  · have h := ite_t hc3 h
    refine wp_iconst (v := 1) dX11_isAsBest_16 (by decide) ?_
    refine wp_goto (tgt := 21) dX11_isAsBest_17 (by decide) ?_
    cases h
    exact wp_pick (ks := [0, 1]) rfl hJ
def mX11_move (N : Nat) (a2 : Int32) (I : gI) : Option (Int32 × gI) := Option.bind (mX11_isTunnel a2 (upd2 I 310 0 0)) (fun (r1, I2) => if r1 = 0 then (some (0, I2)) else (Option.bind (mX11_doesStand 0 a2 I2) (fun r5 => if r5 = 0 then (Option.bind (mX11_refuses 1 I2) (fun (r8, I9) => some (r8, I9))) else (ck (1 + a2) 164 (Option.bind (mX11_hasBest N 0 a2 (I2 317 (1 + a2).toNatClampNeg) I2) (fun (r12, I13) => if r12 = 0 then (Option.bind (mX11_refuses 1 I13) (fun (r16, I17) => some (r16, I17))) else (Option.bind (mX11_isAsBest N a2 I13) (fun r19 => if r19 = 0 then (Option.bind (mX11_keeps N I13) (fun I22 => Option.bind (mX11_settles N 0 ((1 : Int32) <<< (a2 &&& 31)) (upd2 I22 310 36 0)) (fun I24 => some (I24 310 36, I24)))) else (Option.bind (mX11_refuses 1 I13) (fun (r26, I27) => some (r26, I27)))))))))))
set_option maxHeartbeats 4000000 in
set_option maxRecDepth 100000 in
theorem ct_X11_move (N : Nat) (d : Nat) (hd : 6 ≤ d) {S : gS} {J : gJ} (hS : Sh S)  {a2 : Int32} {I : gI} {r : Int32 × gI} (h : mX11_move N a2 I = some r) : Ct yX11_move (wsY yX11_move cX11_move 2 (some .int)) d 0 0 [.ref 310, .int a2] S I J (qE (.inl (some (.int r.1))) S r.2 J) := by
  refine Ct.of hF (fun _ _ _ _ _ => trivial) (by decide +kernel) (Nat.le_of_ble_eq_true rfl) ⟨Or.inl (sn310 hS), trivial, trivial⟩ ?_
  show Wp RX11 cX11_move 2 (some .int) [] hF d 0 0 0 [(0, .ref 310), (1, .int a2)] [] S I J _
  unfold mX11_move at h
  refine wp_aload_n dX11_move_0 rfl rfl ?_
  refine wp_iconst (v := 0) dX11_move_1 (by decide) ?_
  refine wp_putI dX11_move_2 (Or.inl fpX11_96) rfl ⟨rfl, rfl⟩ (sk310 hS) (sn310 hS) ?_
  refine wp_aload_n dX11_move_5 rfl rfl ?_
  refine wp_iload_n dX11_move_6 rfl rfl ?_
  obtain ⟨⟨r1, I2⟩, hF3, h⟩ := obi h
  refine wp_callVi (ci := 11) (As := [.int a2]) dX11_move_7 lbX11_isTunnel mlX11_347 imX11_isTunnel seX11_isTunnel vc11 (ct_X11_isTunnel 1 (Nat.le_refl _) hS  hF3) rfl rfl (Nat.le_trans (by decide) hd) (sk310 hS) (sn310 hS) (Nat.le_of_ble_eq_true rfl) (fun _ => ?_)
  refine wp_if_ne (tgt := 15) dX11_move_10 (by decide) (fun hc4 => ?_) (fun hc4 => ?_)
  · have h := ite_f hc4 h
    refine wp_aload_n dX11_move_15 rfl rfl ?_
    refine wp_iconst (v := 0) dX11_move_16 (by decide) ?_
    refine wp_iload_n dX11_move_17 rfl rfl ?_
    obtain ⟨r5, hF6, h⟩ := obi h
    refine wp_callVi (ci := 11) (As := [.int 0, .int a2]) dX11_move_18 lbX11_doesStand mlX11_219 imX11_doesStand seX11_doesStand vc11 (ct_X11_doesStand 0 (Nat.le_refl _) hS  hF6) rfl rfl (Nat.le_trans (by decide) hd) (sk310 hS) (sn310 hS) (Nat.le_of_ble_eq_true rfl) (fun _ => ?_)
    refine wp_if_eq (tgt := 49) dX11_move_21 (by decide) (fun hc7 => ?_) (fun hc7 => ?_)
    · have h := ite_t hc7 h
      refine wp_aload_n dX11_move_49 rfl rfl ?_
      refine wp_iconst (v := 1) dX11_move_50 (by decide) ?_
      obtain ⟨⟨r8, I9⟩, hF10, h⟩ := obi h
      refine wp_callVi (ci := 11) (As := [.int 1]) dX11_move_51 lbX11_refuses mlX11_353 imX11_refuses seX11_refuses vc11 (ct_X11_refuses 0 (Nat.le_refl _) hS  hF10) rfl rfl (Nat.le_trans (by decide) hd) (sk310 hS) (sn310 hS) (Nat.le_of_ble_eq_true rfl) (fun _ => ?_)
      exact wp_iret dX11_move_54 rfl (by obtain rfl := sji h; exact ⟨rfl, rfl, rfl, rfl⟩)
    · have h := ite_f hc7 h
      refine wp_aload_n dX11_move_24 rfl rfl ?_
      refine wp_iconst (v := 0) dX11_move_25 (by decide) ?_
      refine wp_iload_n dX11_move_26 rfl rfl ?_
      refine wp_aload_n dX11_move_27 rfl rfl ?_
      refine wp_getR dX11_move_28 flX11_35 rfl (sk310 hS) (sn310 hS) (sr310_23 hS) ?_
      refine wp_iconst (v := 1) dX11_move_31 (by decide) ?_
      refine wp_iload_n dX11_move_32 rfl rfl ?_
      refine wp_iadd dX11_move_33 ?_
      obtain ⟨hb11, h⟩ := ck_inv h
      refine wp_iald dX11_move_34 (sk317 hS) (sn317 hS) hb11 ?_
      obtain ⟨⟨r12, I13⟩, hF14, h⟩ := obi h
      refine wp_callVi (ci := 11) (As := [.int 0, .int a2, .int (I2 317 (1 + a2).toNatClampNeg)]) dX11_move_35 lbX11_hasBest mlX11_287 imX11_hasBest seX11_hasBest vc11 (ct_X11_hasBest N 3 (Nat.le_refl _) hS  hF14) rfl rfl (Nat.le_trans (by decide) hd) (sk310 hS) (sn310 hS) (Nat.le_of_ble_eq_true rfl) (fun _ => ?_)
      refine wp_if_eq (tgt := 49) dX11_move_38 (by decide) (fun hc15 => ?_) (fun hc15 => ?_)
      · have h := ite_t hc15 h
        refine wp_aload_n dX11_move_49 rfl rfl ?_
        refine wp_iconst (v := 1) dX11_move_50 (by decide) ?_
        obtain ⟨⟨r16, I17⟩, hF18, h⟩ := obi h
        refine wp_callVi (ci := 11) (As := [.int 1]) dX11_move_51 lbX11_refuses mlX11_353 imX11_refuses seX11_refuses vc11 (ct_X11_refuses 0 (Nat.le_refl _) hS  hF18) rfl rfl (Nat.le_trans (by decide) hd) (sk310 hS) (sn310 hS) (Nat.le_of_ble_eq_true rfl) (fun _ => ?_)
        exact wp_iret dX11_move_54 rfl (by obtain rfl := sji h; exact ⟨rfl, rfl, rfl, rfl⟩)
      · have h := ite_f hc15 h
        refine wp_aload_n dX11_move_41 rfl rfl ?_
        refine wp_iload_n dX11_move_42 rfl rfl ?_
        obtain ⟨r19, hF20, h⟩ := obi h
        refine wp_callVi (ci := 11) (As := [.int a2]) dX11_move_43 lbX11_isAsBest mlX11_359 imX11_isAsBest seX11_isAsBest vc11 (ct_X11_isAsBest N 0 (Nat.le_refl _) hS  hF20) rfl rfl (Nat.le_trans (by decide) hd) (sk310 hS) (sn310 hS) (Nat.le_of_ble_eq_true rfl) (fun _ => ?_)
        refine wp_if_eq (tgt := 55) dX11_move_46 (by decide) (fun hc21 => ?_) (fun hc21 => ?_)
        · have h := ite_t hc21 h
          refine wp_aload_n dX11_move_55 rfl rfl ?_
          obtain ⟨I22, hF23, h⟩ := obi h
          refine wp_callVv (ci := 11) (As := []) dX11_move_56 lbX11_keeps mlX11_356 imX11_keeps seX11_keeps vc11 (ct_X11_keeps N 0 (Nat.le_refl _) hS  hF23) rfl rfl (Nat.le_trans (by decide) hd) (sk310 hS) (sn310 hS) (Nat.le_of_ble_eq_true rfl) (fun _ => ?_)
          refine wp_aload_n dX11_move_59 rfl rfl ?_
          refine wp_iconst (v := 0) dX11_move_60 (by decide) ?_
          refine wp_putI dX11_move_61 (Or.inl fpX11_297) rfl ⟨rfl, rfl⟩ (sk310 hS) (sn310 hS) ?_
          refine wp_aload_n dX11_move_64 rfl rfl ?_
          refine wp_iconst (v := 0) dX11_move_65 (by decide) ?_
          refine wp_iconst (v := 1) dX11_move_66 (by decide) ?_
          refine wp_iload_n dX11_move_67 rfl rfl ?_
          refine wp_ishl dX11_move_68 ?_
          obtain ⟨I24, hF25, h⟩ := obi h
          refine wp_callVv (ci := 11) (As := [.int 0, .int ((1 : Int32) <<< (a2 &&& 31))]) dX11_move_69 lbX11_settles mlX11_300 imX11_settles seX11_settles vc11 (ct_X11_settles N 5 (Nat.le_refl _) hS  hF25) rfl rfl (Nat.le_trans (by decide) hd) (sk310 hS) (sn310 hS) (Nat.le_of_ble_eq_true rfl) (fun _ => ?_)
          refine wp_aload_n dX11_move_72 rfl rfl ?_
          refine wp_getI dX11_move_73 flX11_297 rfl (sk310 hS) (sn310 hS) ?_
          exact wp_iret dX11_move_76 rfl (by obtain rfl := sji h; exact ⟨rfl, rfl, rfl, rfl⟩)
        · have h := ite_f hc21 h
          refine wp_aload_n dX11_move_49 rfl rfl ?_
          refine wp_iconst (v := 1) dX11_move_50 (by decide) ?_
          obtain ⟨⟨r26, I27⟩, hF28, h⟩ := obi h
          refine wp_callVi (ci := 11) (As := [.int 1]) dX11_move_51 lbX11_refuses mlX11_353 imX11_refuses seX11_refuses vc11 (ct_X11_refuses 0 (Nat.le_refl _) hS  hF28) rfl rfl (Nat.le_trans (by decide) hd) (sk310 hS) (sn310 hS) (Nat.le_of_ble_eq_true rfl) (fun _ => ?_)
          exact wp_iret dX11_move_54 rfl (by obtain rfl := sji h; exact ⟨rfl, rfl, rfl, rfl⟩)
  · have h := ite_t hc4 h
    refine wp_iconst (v := 0) dX11_move_13 (by decide) ?_
    exact wp_iret dX11_move_14 rfl (by obtain rfl := sji h; exact ⟨rfl, rfl, rfl, rfl⟩)
def mX11_resize_118 (k3 : Int32) (k5 : Int32) : Nat → Int32 → gI → Option (gI)
  | 0, _, _ => none
  | n + 1, v6, I => if (I 310 15) ≤ v6 then (some I) else (if ((k5 >>> (v6 &&& 31)) &&& 1) = 1 then (ck (10 + v6) 164 (mX11_resize_118 k3 k5 n (v6 + 1) (upd2 I 317 (10 + v6).toNatClampNeg (-1)))) else (mX11_resize_118 k3 k5 n (v6 + 1) I))
def mX11_resize (N : Nat) (a2 : Int32) (a3 : Int32) (I : gI) : Option (Int32 × gI) := Option.bind (mX11_isTunnel a2 (upd2 I 310 0 0)) (fun (r1, I2) => if r1 = 0 then (some (0, I2)) else (ck (1 + a2) 164 (Option.bind (mX11_within a3 1 99 I2) (fun r6 => if r6 = 0 then (Option.bind (mX11_refuses 1 I2) (fun (r9, I10) => some (r9, I10))) else (if a3 = (I2 317 (1 + a2).toNatClampNeg) then (Option.bind (mX11_refuses 1 I2) (fun (r13, I14) => some (r13, I14))) else (Option.bind (mX11_doesStand 0 a2 I2) (fun r16 => if r16 = 0 then (Option.bind (mX11_keeps N I2) (fun I19 => Option.bind (mX11_doesStand 0 a2 I19) (fun r21 => if r21 = 0 then (some (I2 317 (1 + a2).toNatClampNeg, upd2 I19 317 (1 + a2).toNatClampNeg a3)) else (Option.bind (mX11_takes N 0 a2 (upd2 I19 317 (1 + a2).toNatClampNeg a3)) (fun I24 => Option.bind (mX11_pushedBy N 0 a2 I24) (fun r26 => Option.bind (mX11_bits N r26 I24) (fun r28 => Option.bind (mX11_resize_118 (I2 317 (1 + a2).toNatClampNeg) r26 N 0 (upd2 I24 310 36 r28)) (fun I33 => Option.bind (mX11_settles N 0 r26 I33) (fun I34 => some (I2 317 (1 + a2).toNatClampNeg, I34)))))))))) else (Option.bind (mX11_hasBest N 0 a2 a3 I2) (fun (r38, I39) => if r38 = 0 then (Option.bind (mX11_refuses 1 I39) (fun (r61, I62) => some (r61, I62))) else (Option.bind (mX11_keeps N I39) (fun I42 => Option.bind (mX11_doesStand 0 a2 I42) (fun r44 => if r44 = 0 then (some (I2 317 (1 + a2).toNatClampNeg, upd2 I42 317 (1 + a2).toNatClampNeg a3)) else (Option.bind (mX11_takes N 0 a2 (upd2 I42 317 (1 + a2).toNatClampNeg a3)) (fun I47 => Option.bind (mX11_pushedBy N 0 a2 I47) (fun r49 => Option.bind (mX11_bits N r49 I47) (fun r51 => Option.bind (mX11_resize_118 (I2 317 (1 + a2).toNatClampNeg) r49 N 0 (upd2 I47 310 36 r51)) (fun I56 => Option.bind (mX11_settles N 0 r49 I56) (fun I57 => some (I2 317 (1 + a2).toNatClampNeg, I57)))))))))))))))))))
set_option maxHeartbeats 4000000 in
set_option maxRecDepth 100000 in
theorem wX11_resize_118 (d : Nat) (hd : 6 ≤ d) {S : gS} {J : gJ} (hS : Sh S)  (k3 : Int32) (k5 : Int32) {Q : gO → gS → gI → gJ → Prop} :
    ∀ (n : Nat) (v6 : Int32) (I : gI) (res : gI), mX11_resize_118 k3 k5 n v6 I = some res → (∀ (O : gI), res = O → Wp RX11 cX11_resize 7 (some .int) [] hF d 0 0 155 [(0, .ref 310), (3, .int k3), (5, .int k5)] [] S O J Q) → Wp RX11 cX11_resize 7 (some .int) [] hF d 0 0 118 [(0, .ref 310), (3, .int k3), (5, .int k5), (6, .int v6)] [] S I J Q := by
  intro n
  induction n with
  | zero => intro v6 I res h; exact nso h
  | succ n ih =>
    intro v6 I res h kx
    rw [mX11_resize_118] at h
    refine wp_iload dX11_resize_118 rfl ?_
    refine wp_aload_n dX11_resize_120 rfl rfl ?_
    refine wp_getI dX11_resize_121 flX11_202 rfl (sk310 hS) (sn310 hS) ?_
    refine wp_icmp_ge (tgt := 155) dX11_resize_124 (by decide) (fun hc30 => ?_) (fun hc30 => ?_)
    · have h := ite_t hc30 h
      exact wp_pick (ks := [0, 1, 2]) rfl (kx _ (sji h).symm)
    · have h := ite_f hc30 h
      refine wp_iload dX11_resize_127 rfl ?_
      refine wp_iload dX11_resize_129 rfl ?_
      refine wp_ishr dX11_resize_131 ?_
      refine wp_iconst (v := 1) dX11_resize_132 (by decide) ?_
      refine wp_iand dX11_resize_133 ?_
      refine wp_iconst (v := 1) dX11_resize_134 (by decide) ?_
      refine wp_icmp_ne (tgt := 149) dX11_resize_135 (by decide) (fun hc31 => ?_) (fun hc31 => ?_)
      · have h := ite_f hc31 h
        refine wp_iinc (v := 1) (ls' := [(6, .int (v6 + 1)), (0, .ref 310), (3, .int k3), (5, .int k5)]) dX11_resize_149 rfl (by decide) (Nat.le_of_ble_eq_true rfl) rfl ?_
        refine wp_goto (tgt := 118) dX11_resize_152 (by decide) ?_
        exact wp_pick (ks := [1, 2, 3, 0]) rfl (ih _ _ _ h kx)
      · have h := ite_t hc31 h
        refine wp_aload_n dX11_resize_138 rfl rfl ?_
        refine wp_getR dX11_resize_139 flX11_35 rfl (sk310 hS) (sn310 hS) (sr310_23 hS) ?_
        refine wp_bipush (v := 10) dX11_resize_142 (by decide) ?_
        refine wp_iload dX11_resize_144 rfl ?_
        refine wp_iadd dX11_resize_146 ?_
        refine wp_iconst (v := (-1)) dX11_resize_147 (by decide) ?_
        obtain ⟨hb32, h⟩ := ck_inv h
        refine wp_iast dX11_resize_148 (sk317 hS) (sn317 hS) hb32 ?_
        refine wp_iinc (v := 1) (ls' := [(6, .int (v6 + 1)), (0, .ref 310), (3, .int k3), (5, .int k5)]) dX11_resize_149 rfl (by decide) (Nat.le_of_ble_eq_true rfl) rfl ?_
        refine wp_goto (tgt := 118) dX11_resize_152 (by decide) ?_
        exact wp_pick (ks := [1, 2, 3, 0]) rfl (ih _ _ _ h kx)
set_option maxHeartbeats 4000000 in
set_option maxRecDepth 100000 in
theorem ct_X11_resize (N : Nat) (d : Nat) (hd : 6 ≤ d) {S : gS} {J : gJ} (hS : Sh S)  {a2 : Int32} {a3 : Int32} {I : gI} {r : Int32 × gI} (h : mX11_resize N a2 a3 I = some r) : Ct yX11_resize (wsY yX11_resize cX11_resize 7 (some .int)) d 0 0 [.ref 310, .int a2, .int a3] S I J (qE (.inl (some (.int r.1))) S r.2 J) := by
  refine Ct.of hF (fun _ _ _ _ _ => trivial) (by decide +kernel) (Nat.le_of_ble_eq_true rfl) ⟨Or.inl (sn310 hS), trivial, trivial, trivial⟩ ?_
  show Wp RX11 cX11_resize 7 (some .int) [] hF d 0 0 0 [(0, .ref 310), (1, .int a2), (2, .int a3)] [] S I J _
  unfold mX11_resize at h
  refine wp_aload_n dX11_resize_0 rfl rfl ?_
  refine wp_iconst (v := 0) dX11_resize_1 (by decide) ?_
  refine wp_putI dX11_resize_2 (Or.inl fpX11_96) rfl ⟨rfl, rfl⟩ (sk310 hS) (sn310 hS) ?_
  refine wp_aload_n dX11_resize_5 rfl rfl ?_
  refine wp_iload_n dX11_resize_6 rfl rfl ?_
  obtain ⟨⟨r1, I2⟩, hF3, h⟩ := obi h
  refine wp_callVi (ci := 11) (As := [.int a2]) dX11_resize_7 lbX11_isTunnel mlX11_347 imX11_isTunnel seX11_isTunnel vc11 (ct_X11_isTunnel 1 (Nat.le_refl _) hS  hF3) rfl rfl (Nat.le_trans (by decide) hd) (sk310 hS) (sn310 hS) (Nat.le_of_ble_eq_true rfl) (fun _ => ?_)
  refine wp_if_ne (tgt := 15) dX11_resize_10 (by decide) (fun hc4 => ?_) (fun hc4 => ?_)
  · have h := ite_f hc4 h
    refine wp_aload_n dX11_resize_15 rfl rfl ?_
    refine wp_getR dX11_resize_16 flX11_35 rfl (sk310 hS) (sn310 hS) (sr310_23 hS) ?_
    refine wp_iconst (v := 1) dX11_resize_19 (by decide) ?_
    refine wp_iload_n dX11_resize_20 rfl rfl ?_
    refine wp_iadd dX11_resize_21 ?_
    obtain ⟨hb5, h⟩ := ck_inv h
    refine wp_iald dX11_resize_22 (sk317 hS) (sn317 hS) hb5 ?_
    refine wp_istore_n (ls' := [(3, .int (I2 317 (1 + a2).toNatClampNeg)), (0, .ref 310), (1, .int a2), (2, .int a3)]) dX11_resize_23 rfl (Nat.le_of_ble_eq_true rfl) rfl ?_
    refine wp_iload_n dX11_resize_24 rfl rfl ?_
    refine wp_iconst (v := 1) dX11_resize_25 (by decide) ?_
    refine wp_bipush (v := 99) dX11_resize_26 (by decide) ?_
    obtain ⟨r6, hF7, h⟩ := obi h
    refine wp_callSi (As := [.int a3, .int 1, .int 99]) dX11_resize_28 lbX11_within mlX11_318 smX11_within (ct_X11_within 0 (Nat.le_refl _) hS  hF7) rfl rfl (Nat.le_trans (by decide) hd) (Nat.le_of_ble_eq_true rfl) (fun _ => ?_)
    refine wp_if_eq (tgt := 58) dX11_resize_31 (by decide) (fun hc8 => ?_) (fun hc8 => ?_)
    · have h := ite_t hc8 h
      refine wp_aload_n dX11_resize_58 rfl rfl ?_
      refine wp_iconst (v := 1) dX11_resize_59 (by decide) ?_
      obtain ⟨⟨r9, I10⟩, hF11, h⟩ := obi h
      refine wp_callVi (ci := 11) (As := [.int 1]) dX11_resize_60 lbX11_refuses mlX11_353 imX11_refuses seX11_refuses vc11 (ct_X11_refuses 0 (Nat.le_refl _) hS  hF11) rfl rfl (Nat.le_trans (by decide) hd) (sk310 hS) (sn310 hS) (Nat.le_of_ble_eq_true rfl) (fun _ => ?_)
      exact wp_iret dX11_resize_63 rfl (by obtain rfl := sji h; exact ⟨rfl, rfl, rfl, rfl⟩)
    · have h := ite_f hc8 h
      refine wp_iload_n dX11_resize_34 rfl rfl ?_
      refine wp_iload_n dX11_resize_35 rfl rfl ?_
      refine wp_icmp_eq (tgt := 58) dX11_resize_36 (by decide) (fun hc12 => ?_) (fun hc12 => ?_)
      · have h := ite_t hc12 h
        refine wp_aload_n dX11_resize_58 rfl rfl ?_
        refine wp_iconst (v := 1) dX11_resize_59 (by decide) ?_
        obtain ⟨⟨r13, I14⟩, hF15, h⟩ := obi h
        refine wp_callVi (ci := 11) (As := [.int 1]) dX11_resize_60 lbX11_refuses mlX11_353 imX11_refuses seX11_refuses vc11 (ct_X11_refuses 0 (Nat.le_refl _) hS  hF15) rfl rfl (Nat.le_trans (by decide) hd) (sk310 hS) (sn310 hS) (Nat.le_of_ble_eq_true rfl) (fun _ => ?_)
        exact wp_iret dX11_resize_63 rfl (by obtain rfl := sji h; exact ⟨rfl, rfl, rfl, rfl⟩)
      · have h := ite_f hc12 h
        refine wp_aload_n dX11_resize_39 rfl rfl ?_
        refine wp_iconst (v := 0) dX11_resize_40 (by decide) ?_
        refine wp_iload_n dX11_resize_41 rfl rfl ?_
        obtain ⟨r16, hF17, h⟩ := obi h
        refine wp_callVi (ci := 11) (As := [.int 0, .int a2]) dX11_resize_42 lbX11_doesStand mlX11_219 imX11_doesStand seX11_doesStand vc11 (ct_X11_doesStand 0 (Nat.le_refl _) hS  hF17) rfl rfl (Nat.le_trans (by decide) hd) (sk310 hS) (sn310 hS) (Nat.le_of_ble_eq_true rfl) (fun _ => ?_)
        refine wp_if_eq (tgt := 64) dX11_resize_45 (by decide) (fun hc18 => ?_) (fun hc18 => ?_)
        · have h := ite_t hc18 h
          refine wp_aload_n dX11_resize_64 rfl rfl ?_
          obtain ⟨I19, hF20, h⟩ := obi h
          refine wp_callVv (ci := 11) (As := []) dX11_resize_65 lbX11_keeps mlX11_356 imX11_keeps seX11_keeps vc11 (ct_X11_keeps N 0 (Nat.le_refl _) hS  hF20) rfl rfl (Nat.le_trans (by decide) hd) (sk310 hS) (sn310 hS) (Nat.le_of_ble_eq_true rfl) (fun _ => ?_)
          refine wp_aload_n dX11_resize_68 rfl rfl ?_
          refine wp_iconst (v := 0) dX11_resize_69 (by decide) ?_
          refine wp_iload_n dX11_resize_70 rfl rfl ?_
          obtain ⟨r21, hF22, h⟩ := obi h
          refine wp_callVi (ci := 11) (As := [.int 0, .int a2]) dX11_resize_71 lbX11_doesStand mlX11_219 imX11_doesStand seX11_doesStand vc11 (ct_X11_doesStand 0 (Nat.le_refl _) hS  hF22) rfl rfl (Nat.le_trans (by decide) hd) (sk310 hS) (sn310 hS) (Nat.le_of_ble_eq_true rfl) (fun _ => ?_)
          refine wp_istore (ls' := [(4, .int r21), (3, .int (I2 317 (1 + a2).toNatClampNeg)), (0, .ref 310), (1, .int a2), (2, .int a3)]) dX11_resize_74 (Nat.le_of_ble_eq_true rfl) rfl ?_
          refine wp_aload_n dX11_resize_76 rfl rfl ?_
          refine wp_getR dX11_resize_77 flX11_35 rfl (sk310 hS) (sn310 hS) (sr310_23 hS) ?_
          refine wp_iconst (v := 1) dX11_resize_80 (by decide) ?_
          refine wp_iload_n dX11_resize_81 rfl rfl ?_
          refine wp_iadd dX11_resize_82 ?_
          refine wp_iload_n dX11_resize_83 rfl rfl ?_
          refine wp_iast dX11_resize_84 (sk317 hS) (sn317 hS) hb5 ?_
          refine wp_iload dX11_resize_85 rfl ?_
          refine wp_if_ne (tgt := 92) dX11_resize_87 (by decide) (fun hc23 => ?_) (fun hc23 => ?_)
          · have h := ite_f hc23 h
            refine wp_aload_n dX11_resize_92 rfl rfl ?_
            refine wp_iconst (v := 0) dX11_resize_93 (by decide) ?_
            refine wp_iload_n dX11_resize_94 rfl rfl ?_
            obtain ⟨I24, hF25, h⟩ := obi h
            refine wp_callVv (ci := 11) (As := [.int 0, .int a2]) dX11_resize_95 lbX11_takes mlX11_290 imX11_takes seX11_takes vc11 (ct_X11_takes N 0 (Nat.le_refl _) hS  hF25) rfl rfl (Nat.le_trans (by decide) hd) (sk310 hS) (sn310 hS) (Nat.le_of_ble_eq_true rfl) (fun _ => ?_)
            refine wp_aload_n dX11_resize_98 rfl rfl ?_
            refine wp_iconst (v := 0) dX11_resize_99 (by decide) ?_
            refine wp_iload_n dX11_resize_100 rfl rfl ?_
            obtain ⟨r26, hF27, h⟩ := obi h
            refine wp_callVi (ci := 11) (As := [.int 0, .int a2]) dX11_resize_101 lbX11_pushedBy mlX11_294 imX11_pushedBy seX11_pushedBy vc11 (ct_X11_pushedBy N 4 (Nat.le_refl _) hS  hF27) rfl rfl (Nat.le_trans (by decide) hd) (sk310 hS) (sn310 hS) (Nat.le_of_ble_eq_true rfl) (fun _ => ?_)
            refine wp_istore (ls' := [(5, .int r26), (4, .int r21), (3, .int (I2 317 (1 + a2).toNatClampNeg)), (0, .ref 310), (1, .int a2), (2, .int a3)]) dX11_resize_104 (Nat.le_of_ble_eq_true rfl) rfl ?_
            refine wp_aload_n dX11_resize_106 rfl rfl ?_
            refine wp_iload dX11_resize_107 rfl ?_
            obtain ⟨r28, hF29, h⟩ := obi h
            refine wp_callSi (As := [.int r26]) dX11_resize_109 lbX11_bits mlX11_275 smX11_bits (ct_X11_bits N 0 (Nat.le_refl _) hS  hF29) rfl rfl (Nat.le_trans (by decide) hd) (Nat.le_of_ble_eq_true rfl) (fun _ => ?_)
            refine wp_putI dX11_resize_112 (Or.inl fpX11_297) rfl ⟨rfl, rfl⟩ (sk310 hS) (sn310 hS) ?_
            refine wp_iconst (v := 0) dX11_resize_115 (by decide) ?_
            refine wp_istore (ls' := [(6, .int 0), (5, .int r26), (4, .int r21), (3, .int (I2 317 (1 + a2).toNatClampNeg)), (0, .ref 310), (1, .int a2), (2, .int a3)]) dX11_resize_116 (Nat.le_of_ble_eq_true rfl) rfl ?_
            obtain ⟨I33, hL936, h⟩ := obi h
            refine wp_pick (ks := [4, 3, 1, 0]) rfl (wX11_resize_118 d hd hS  (I2 317 (1 + a2).toNatClampNeg) r26 N 0 (upd2 I24 310 36 r28) _ hL936 (fun _ e37 => ?_))
            cases e37
            refine wp_aload_n dX11_resize_155 rfl rfl ?_
            refine wp_iconst (v := 0) dX11_resize_156 (by decide) ?_
            refine wp_iload dX11_resize_157 rfl ?_
            obtain ⟨I34, hF35, h⟩ := obi h
            refine wp_callVv (ci := 11) (As := [.int 0, .int r26]) dX11_resize_159 lbX11_settles mlX11_300 imX11_settles seX11_settles vc11 (ct_X11_settles N 5 (Nat.le_refl _) hS  hF35) rfl rfl (Nat.le_trans (by decide) hd) (sk310 hS) (sn310 hS) (Nat.le_of_ble_eq_true rfl) (fun _ => ?_)
            refine wp_iload_n dX11_resize_162 rfl rfl ?_
            exact wp_iret dX11_resize_163 rfl (by obtain rfl := sji h; exact ⟨rfl, rfl, rfl, rfl⟩)
          · have h := ite_t hc23 h
            refine wp_iload_n dX11_resize_90 rfl rfl ?_
            exact wp_iret dX11_resize_91 rfl (by obtain rfl := sji h; exact ⟨rfl, rfl, rfl, rfl⟩)
        · have h := ite_f hc18 h
          refine wp_aload_n dX11_resize_48 rfl rfl ?_
          refine wp_iconst (v := 0) dX11_resize_49 (by decide) ?_
          refine wp_iload_n dX11_resize_50 rfl rfl ?_
          refine wp_iload_n dX11_resize_51 rfl rfl ?_
          obtain ⟨⟨r38, I39⟩, hF40, h⟩ := obi h
          refine wp_callVi (ci := 11) (As := [.int 0, .int a2, .int a3]) dX11_resize_52 lbX11_hasBest mlX11_287 imX11_hasBest seX11_hasBest vc11 (ct_X11_hasBest N 3 (Nat.le_refl _) hS  hF40) rfl rfl (Nat.le_trans (by decide) hd) (sk310 hS) (sn310 hS) (Nat.le_of_ble_eq_true rfl) (fun _ => ?_)
          refine wp_if_ne (tgt := 64) dX11_resize_55 (by decide) (fun hc41 => ?_) (fun hc41 => ?_)
          · have h := ite_f hc41 h
            refine wp_aload_n dX11_resize_64 rfl rfl ?_
            obtain ⟨I42, hF43, h⟩ := obi h
            refine wp_callVv (ci := 11) (As := []) dX11_resize_65 lbX11_keeps mlX11_356 imX11_keeps seX11_keeps vc11 (ct_X11_keeps N 0 (Nat.le_refl _) hS  hF43) rfl rfl (Nat.le_trans (by decide) hd) (sk310 hS) (sn310 hS) (Nat.le_of_ble_eq_true rfl) (fun _ => ?_)
            refine wp_aload_n dX11_resize_68 rfl rfl ?_
            refine wp_iconst (v := 0) dX11_resize_69 (by decide) ?_
            refine wp_iload_n dX11_resize_70 rfl rfl ?_
            obtain ⟨r44, hF45, h⟩ := obi h
            refine wp_callVi (ci := 11) (As := [.int 0, .int a2]) dX11_resize_71 lbX11_doesStand mlX11_219 imX11_doesStand seX11_doesStand vc11 (ct_X11_doesStand 0 (Nat.le_refl _) hS  hF45) rfl rfl (Nat.le_trans (by decide) hd) (sk310 hS) (sn310 hS) (Nat.le_of_ble_eq_true rfl) (fun _ => ?_)
            refine wp_istore (ls' := [(4, .int r44), (3, .int (I2 317 (1 + a2).toNatClampNeg)), (0, .ref 310), (1, .int a2), (2, .int a3)]) dX11_resize_74 (Nat.le_of_ble_eq_true rfl) rfl ?_
            refine wp_aload_n dX11_resize_76 rfl rfl ?_
            refine wp_getR dX11_resize_77 flX11_35 rfl (sk310 hS) (sn310 hS) (sr310_23 hS) ?_
            refine wp_iconst (v := 1) dX11_resize_80 (by decide) ?_
            refine wp_iload_n dX11_resize_81 rfl rfl ?_
            refine wp_iadd dX11_resize_82 ?_
            refine wp_iload_n dX11_resize_83 rfl rfl ?_
            refine wp_iast dX11_resize_84 (sk317 hS) (sn317 hS) hb5 ?_
            refine wp_iload dX11_resize_85 rfl ?_
            refine wp_if_ne (tgt := 92) dX11_resize_87 (by decide) (fun hc46 => ?_) (fun hc46 => ?_)
            · have h := ite_f hc46 h
              refine wp_aload_n dX11_resize_92 rfl rfl ?_
              refine wp_iconst (v := 0) dX11_resize_93 (by decide) ?_
              refine wp_iload_n dX11_resize_94 rfl rfl ?_
              obtain ⟨I47, hF48, h⟩ := obi h
              refine wp_callVv (ci := 11) (As := [.int 0, .int a2]) dX11_resize_95 lbX11_takes mlX11_290 imX11_takes seX11_takes vc11 (ct_X11_takes N 0 (Nat.le_refl _) hS  hF48) rfl rfl (Nat.le_trans (by decide) hd) (sk310 hS) (sn310 hS) (Nat.le_of_ble_eq_true rfl) (fun _ => ?_)
              refine wp_aload_n dX11_resize_98 rfl rfl ?_
              refine wp_iconst (v := 0) dX11_resize_99 (by decide) ?_
              refine wp_iload_n dX11_resize_100 rfl rfl ?_
              obtain ⟨r49, hF50, h⟩ := obi h
              refine wp_callVi (ci := 11) (As := [.int 0, .int a2]) dX11_resize_101 lbX11_pushedBy mlX11_294 imX11_pushedBy seX11_pushedBy vc11 (ct_X11_pushedBy N 4 (Nat.le_refl _) hS  hF50) rfl rfl (Nat.le_trans (by decide) hd) (sk310 hS) (sn310 hS) (Nat.le_of_ble_eq_true rfl) (fun _ => ?_)
              refine wp_istore (ls' := [(5, .int r49), (4, .int r44), (3, .int (I2 317 (1 + a2).toNatClampNeg)), (0, .ref 310), (1, .int a2), (2, .int a3)]) dX11_resize_104 (Nat.le_of_ble_eq_true rfl) rfl ?_
              refine wp_aload_n dX11_resize_106 rfl rfl ?_
              refine wp_iload dX11_resize_107 rfl ?_
              obtain ⟨r51, hF52, h⟩ := obi h
              refine wp_callSi (As := [.int r49]) dX11_resize_109 lbX11_bits mlX11_275 smX11_bits (ct_X11_bits N 0 (Nat.le_refl _) hS  hF52) rfl rfl (Nat.le_trans (by decide) hd) (Nat.le_of_ble_eq_true rfl) (fun _ => ?_)
              refine wp_putI dX11_resize_112 (Or.inl fpX11_297) rfl ⟨rfl, rfl⟩ (sk310 hS) (sn310 hS) ?_
              refine wp_iconst (v := 0) dX11_resize_115 (by decide) ?_
              refine wp_istore (ls' := [(6, .int 0), (5, .int r49), (4, .int r44), (3, .int (I2 317 (1 + a2).toNatClampNeg)), (0, .ref 310), (1, .int a2), (2, .int a3)]) dX11_resize_116 (Nat.le_of_ble_eq_true rfl) rfl ?_
              obtain ⟨I56, hL959, h⟩ := obi h
              refine wp_pick (ks := [4, 3, 1, 0]) rfl (wX11_resize_118 d hd hS  (I2 317 (1 + a2).toNatClampNeg) r49 N 0 (upd2 I47 310 36 r51) _ hL959 (fun _ e60 => ?_))
              cases e60
              refine wp_aload_n dX11_resize_155 rfl rfl ?_
              refine wp_iconst (v := 0) dX11_resize_156 (by decide) ?_
              refine wp_iload dX11_resize_157 rfl ?_
              obtain ⟨I57, hF58, h⟩ := obi h
              refine wp_callVv (ci := 11) (As := [.int 0, .int r49]) dX11_resize_159 lbX11_settles mlX11_300 imX11_settles seX11_settles vc11 (ct_X11_settles N 5 (Nat.le_refl _) hS  hF58) rfl rfl (Nat.le_trans (by decide) hd) (sk310 hS) (sn310 hS) (Nat.le_of_ble_eq_true rfl) (fun _ => ?_)
              refine wp_iload_n dX11_resize_162 rfl rfl ?_
              exact wp_iret dX11_resize_163 rfl (by obtain rfl := sji h; exact ⟨rfl, rfl, rfl, rfl⟩)
            · have h := ite_t hc46 h
              refine wp_iload_n dX11_resize_90 rfl rfl ?_
              exact wp_iret dX11_resize_91 rfl (by obtain rfl := sji h; exact ⟨rfl, rfl, rfl, rfl⟩)
          · have h := ite_t hc41 h
            refine wp_aload_n dX11_resize_58 rfl rfl ?_
            refine wp_iconst (v := 1) dX11_resize_59 (by decide) ?_
            obtain ⟨⟨r61, I62⟩, hF63, h⟩ := obi h
            refine wp_callVi (ci := 11) (As := [.int 1]) dX11_resize_60 lbX11_refuses mlX11_353 imX11_refuses seX11_refuses vc11 (ct_X11_refuses 0 (Nat.le_refl _) hS  hF63) rfl rfl (Nat.le_trans (by decide) hd) (sk310 hS) (sn310 hS) (Nat.le_of_ble_eq_true rfl) (fun _ => ?_)
            exact wp_iret dX11_resize_63 rfl (by obtain rfl := sji h; exact ⟨rfl, rfl, rfl, rfl⟩)
  · have h := ite_t hc4 h
    refine wp_iconst (v := 0) dX11_resize_13 (by decide) ?_
    exact wp_iret dX11_resize_14 rfl (by obtain rfl := sji h; exact ⟨rfl, rfl, rfl, rfl⟩)
def mX11_fail (N : Nat) (a2 : Int32) (I : gI) : Option (Int32 × gI) := Option.bind (mX11_isLink a2 (upd2 I 310 0 0)) (fun (r1, I2) => if r1 = 0 then (some (0, I2)) else (Option.bind (mX11_isUp 0 a2 I2) (fun r5 => if r5 = 0 then (Option.bind (mX11_refuses 1 I2) (fun (r18, I19) => some (r18, I19))) else (Option.bind (mX11_keeps N I2) (fun I8 => Option.bind (mX11_standing N 0 I8) (fun r10 => Option.bind (mX11_fails N 0 a2 I8) (fun I12 => Option.bind (mX11_standing N 0 I12) (fun r14 => Option.bind (mX11_bits N (r10 &&& (r14 ^^^ (-1))) I12) (fun r16 => some (r16, I12))))))))))
set_option maxHeartbeats 4000000 in
set_option maxRecDepth 100000 in
theorem ct_X11_fail (N : Nat) (d : Nat) (hd : 7 ≤ d) {S : gS} {J : gJ} (hS : Sh S)  {a2 : Int32} {I : gI} {r : Int32 × gI} (h : mX11_fail N a2 I = some r) : Ct yX11_fail (wsY yX11_fail cX11_fail 3 (some .int)) d 0 0 [.ref 310, .int a2] S I J (qE (.inl (some (.int r.1))) S r.2 J) := by
  refine Ct.of hF (fun _ _ _ _ _ => trivial) (by decide +kernel) (Nat.le_of_ble_eq_true rfl) ⟨Or.inl (sn310 hS), trivial, trivial⟩ ?_
  show Wp RX11 cX11_fail 3 (some .int) [] hF d 0 0 0 [(0, .ref 310), (1, .int a2)] [] S I J _
  unfold mX11_fail at h
  refine wp_aload_n dX11_fail_0 rfl rfl ?_
  refine wp_iconst (v := 0) dX11_fail_1 (by decide) ?_
  refine wp_putI dX11_fail_2 (Or.inl fpX11_96) rfl ⟨rfl, rfl⟩ (sk310 hS) (sn310 hS) ?_
  refine wp_aload_n dX11_fail_5 rfl rfl ?_
  refine wp_iload_n dX11_fail_6 rfl rfl ?_
  obtain ⟨⟨r1, I2⟩, hF3, h⟩ := obi h
  refine wp_callVi (ci := 11) (As := [.int a2]) dX11_fail_7 lbX11_isLink mlX11_335 imX11_isLink seX11_isLink vc11 (ct_X11_isLink 1 (Nat.le_refl _) hS  hF3) rfl rfl (Nat.le_trans (by decide) hd) (sk310 hS) (sn310 hS) (Nat.le_of_ble_eq_true rfl) (fun _ => ?_)
  refine wp_if_ne (tgt := 15) dX11_fail_10 (by decide) (fun hc4 => ?_) (fun hc4 => ?_)
  · have h := ite_f hc4 h
    refine wp_aload_n dX11_fail_15 rfl rfl ?_
    refine wp_iconst (v := 0) dX11_fail_16 (by decide) ?_
    refine wp_iload_n dX11_fail_17 rfl rfl ?_
    obtain ⟨r5, hF6, h⟩ := obi h
    refine wp_callVi (ci := 11) (As := [.int 0, .int a2]) dX11_fail_18 lbX11_isUp mlX11_233 imX11_isUp seX11_isUp vc11 (ct_X11_isUp 0 (Nat.le_refl _) hS  hF6) rfl rfl (Nat.le_trans (by decide) hd) (sk310 hS) (sn310 hS) (Nat.le_of_ble_eq_true rfl) (fun _ => ?_)
    refine wp_if_ne (tgt := 30) dX11_fail_21 (by decide) (fun hc7 => ?_) (fun hc7 => ?_)
    · have h := ite_f hc7 h
      refine wp_aload_n dX11_fail_30 rfl rfl ?_
      obtain ⟨I8, hF9, h⟩ := obi h
      refine wp_callVv (ci := 11) (As := []) dX11_fail_31 lbX11_keeps mlX11_356 imX11_keeps seX11_keeps vc11 (ct_X11_keeps N 0 (Nat.le_refl _) hS  hF9) rfl rfl (Nat.le_trans (by decide) hd) (sk310 hS) (sn310 hS) (Nat.le_of_ble_eq_true rfl) (fun _ => ?_)
      refine wp_aload_n dX11_fail_34 rfl rfl ?_
      refine wp_iconst (v := 0) dX11_fail_35 (by decide) ?_
      obtain ⟨r10, hF11, h⟩ := obi h
      refine wp_callVi (ci := 11) (As := [.int 0]) dX11_fail_36 lbX11_standing mlX11_309 imX11_standing seX11_standing vc11 (ct_X11_standing N 1 (Nat.le_refl _) hS  hF11) rfl rfl (Nat.le_trans (by decide) hd) (sk310 hS) (sn310 hS) (Nat.le_of_ble_eq_true rfl) (fun _ => ?_)
      refine wp_istore_n (ls' := [(2, .int r10), (0, .ref 310), (1, .int a2)]) dX11_fail_39 rfl (Nat.le_of_ble_eq_true rfl) rfl ?_
      refine wp_aload_n dX11_fail_40 rfl rfl ?_
      refine wp_iconst (v := 0) dX11_fail_41 (by decide) ?_
      refine wp_iload_n dX11_fail_42 rfl rfl ?_
      obtain ⟨I12, hF13, h⟩ := obi h
      refine wp_callVv (ci := 11) (As := [.int 0, .int a2]) dX11_fail_43 lbX11_fails mlX11_306 imX11_fails seX11_fails vc11 (ct_X11_fails N 6 (Nat.le_refl _) hS  hF13) rfl rfl (Nat.le_trans (by decide) hd) (sk310 hS) (sn310 hS) (Nat.le_of_ble_eq_true rfl) (fun _ => ?_)
      refine wp_iload_n dX11_fail_46 rfl rfl ?_
      refine wp_aload_n dX11_fail_47 rfl rfl ?_
      refine wp_iconst (v := 0) dX11_fail_48 (by decide) ?_
      obtain ⟨r14, hF15, h⟩ := obi h
      refine wp_callVi (ci := 11) (As := [.int 0]) dX11_fail_49 lbX11_standing mlX11_309 imX11_standing seX11_standing vc11 (ct_X11_standing N 1 (Nat.le_refl _) hS  hF15) rfl rfl (Nat.le_trans (by decide) hd) (sk310 hS) (sn310 hS) (Nat.le_of_ble_eq_true rfl) (fun _ => ?_)
      refine wp_iconst (v := (-1)) dX11_fail_52 (by decide) ?_
      refine wp_ixor dX11_fail_53 ?_
      refine wp_iand dX11_fail_54 ?_
      obtain ⟨r16, hF17, h⟩ := obi h
      refine wp_callSi (As := [.int (r10 &&& (r14 ^^^ (-1)))]) dX11_fail_55 lbX11_bits mlX11_275 smX11_bits (ct_X11_bits N 0 (Nat.le_refl _) hS  hF17) rfl rfl (Nat.le_trans (by decide) hd) (Nat.le_of_ble_eq_true rfl) (fun _ => ?_)
      exact wp_iret dX11_fail_58 rfl (by obtain rfl := sji h; exact ⟨rfl, rfl, rfl, rfl⟩)
    · have h := ite_t hc7 h
      refine wp_aload_n dX11_fail_24 rfl rfl ?_
      refine wp_iconst (v := 1) dX11_fail_25 (by decide) ?_
      obtain ⟨⟨r18, I19⟩, hF20, h⟩ := obi h
      refine wp_callVi (ci := 11) (As := [.int 1]) dX11_fail_26 lbX11_refuses mlX11_353 imX11_refuses seX11_refuses vc11 (ct_X11_refuses 0 (Nat.le_refl _) hS  hF20) rfl rfl (Nat.le_trans (by decide) hd) (sk310 hS) (sn310 hS) (Nat.le_of_ble_eq_true rfl) (fun _ => ?_)
      exact wp_iret dX11_fail_29 rfl (by obtain rfl := sji h; exact ⟨rfl, rfl, rfl, rfl⟩)
  · have h := ite_t hc4 h
    refine wp_iconst (v := 0) dX11_fail_13 (by decide) ?_
    exact wp_iret dX11_fail_14 rfl (by obtain rfl := sji h; exact ⟨rfl, rfl, rfl, rfl⟩)
def mX11_mend (N : Nat) (a2 : Int32) (I : gI) : Option (Int32 × gI) := Option.bind (mX11_isLink a2 (upd2 I 310 0 0)) (fun (r1, I2) => if r1 = 0 then (some (0, I2)) else (Option.bind (mX11_isUp 0 a2 I2) (fun r5 => if r5 = 0 then (Option.bind (mX11_keeps N I2) (fun I8 => nm ((I8 317 (0 : Int32).toNatClampNeg) ||| ((1 : Int32) <<< (a2 &&& 31))) (fun x10 => some (1, upd2 I8 317 (0 : Int32).toNatClampNeg x10)))) else (Option.bind (mX11_refuses 1 I2) (fun (r12, I13) => if r12 ≤ 0 then (some (0, I13)) else (some (1, I13)))))))
set_option maxHeartbeats 4000000 in
set_option maxRecDepth 100000 in
theorem ct_X11_mend (N : Nat) (d : Nat) (hd : 2 ≤ d) {S : gS} {J : gJ} (hS : Sh S)  {a2 : Int32} {I : gI} {r : Int32 × gI} (h : mX11_mend N a2 I = some r) : Ct yX11_mend (wsY yX11_mend cX11_mend 2 (some .boolean)) d 0 0 [.ref 310, .int a2] S I J (qE (.inl (some (.int r.1))) S r.2 J) := by
  refine Ct.of hF (fun _ _ _ _ _ => trivial) (by decide +kernel) (Nat.le_of_ble_eq_true rfl) ⟨Or.inl (sn310 hS), trivial, trivial⟩ ?_
  show Wp RX11 cX11_mend 2 (some .boolean) [] hF d 0 0 0 [(0, .ref 310), (1, .int a2)] [] S I J _
  unfold mX11_mend at h
  refine wp_aload_n dX11_mend_0 rfl rfl ?_
  refine wp_iconst (v := 0) dX11_mend_1 (by decide) ?_
  refine wp_putI dX11_mend_2 (Or.inl fpX11_96) rfl ⟨rfl, rfl⟩ (sk310 hS) (sn310 hS) ?_
  refine wp_aload_n dX11_mend_5 rfl rfl ?_
  refine wp_iload_n dX11_mend_6 rfl rfl ?_
  obtain ⟨⟨r1, I2⟩, hF3, h⟩ := obi h
  refine wp_callVi (ci := 11) (As := [.int a2]) dX11_mend_7 lbX11_isLink mlX11_335 imX11_isLink seX11_isLink vc11 (ct_X11_isLink 1 (Nat.le_refl _) hS  hF3) rfl rfl (Nat.le_trans (by decide) hd) (sk310 hS) (sn310 hS) (Nat.le_of_ble_eq_true rfl) (fun _ => ?_)
  refine wp_if_ne (tgt := 15) dX11_mend_10 (by decide) (fun hc4 => ?_) (fun hc4 => ?_)
  · have h := ite_f hc4 h
    refine wp_aload_n dX11_mend_15 rfl rfl ?_
    refine wp_iconst (v := 0) dX11_mend_16 (by decide) ?_
    refine wp_iload_n dX11_mend_17 rfl rfl ?_
    obtain ⟨r5, hF6, h⟩ := obi h
    refine wp_callVi (ci := 11) (As := [.int 0, .int a2]) dX11_mend_18 lbX11_isUp mlX11_233 imX11_isUp seX11_isUp vc11 (ct_X11_isUp 0 (Nat.le_refl _) hS  hF6) rfl rfl (Nat.le_trans (by decide) hd) (sk310 hS) (sn310 hS) (Nat.le_of_ble_eq_true rfl) (fun _ => ?_)
    refine wp_if_eq (tgt := 38) dX11_mend_21 (by decide) (fun hc7 => ?_) (fun hc7 => ?_)
    · have h := ite_t hc7 h
      refine wp_aload_n dX11_mend_38 rfl rfl ?_
      obtain ⟨I8, hF9, h⟩ := obi h
      refine wp_callVv (ci := 11) (As := []) dX11_mend_39 lbX11_keeps mlX11_356 imX11_keeps seX11_keeps vc11 (ct_X11_keeps N 0 (Nat.le_refl _) hS  hF9) rfl rfl (Nat.le_trans (by decide) hd) (sk310 hS) (sn310 hS) (Nat.le_of_ble_eq_true rfl) (fun _ => ?_)
      refine wp_aload_n dX11_mend_42 rfl rfl ?_
      refine wp_getR dX11_mend_43 flX11_35 rfl (sk310 hS) (sn310 hS) (sr310_23 hS) ?_
      refine wp_iconst (v := 0) dX11_mend_46 (by decide) ?_
      refine wp_dup2 dX11_mend_47 rfl rfl ?_
      refine wp_iald dX11_mend_48 (sk317 hS) (sn317 hS) (inb_in (by decide)) ?_
      refine wp_iconst (v := 1) dX11_mend_49 (by decide) ?_
      refine wp_iload_n dX11_mend_50 rfl rfl ?_
      refine wp_ishl dX11_mend_51 ?_
      refine wp_ior dX11_mend_52 ?_
      obtain ⟨x10, hx11, h⟩ := nm_inv h
      refine wp_topi hx11 ?_
      refine wp_iast dX11_mend_53 (sk317 hS) (sn317 hS) (inb_in (by decide)) ?_
      refine wp_iconst (v := 1) dX11_mend_54 (by decide) ?_
      exact wp_zret dX11_mend_55 rfl (by decide) (by obtain rfl := sji h; exact ⟨rfl, rfl, rfl, rfl⟩)
    · have h := ite_f hc7 h
      refine wp_aload_n dX11_mend_24 rfl rfl ?_
      refine wp_iconst (v := 1) dX11_mend_25 (by decide) ?_
      obtain ⟨⟨r12, I13⟩, hF14, h⟩ := obi h
      refine wp_callVi (ci := 11) (As := [.int 1]) dX11_mend_26 lbX11_refuses mlX11_353 imX11_refuses seX11_refuses vc11 (ct_X11_refuses 0 (Nat.le_refl _) hS  hF14) rfl rfl (Nat.le_trans (by decide) hd) (sk310 hS) (sn310 hS) (Nat.le_of_ble_eq_true rfl) (fun _ => ?_)
      refine wp_if_le (tgt := 36) dX11_mend_29 (by decide) (fun hc15 => ?_) (fun hc15 => ?_)
      · have h := ite_t hc15 h
        refine wp_iconst (v := 0) dX11_mend_36 (by decide) ?_
        exact wp_zret dX11_mend_37 rfl (by decide) (by obtain rfl := sji h; exact ⟨rfl, rfl, rfl, rfl⟩)
      · have h := ite_f hc15 h
        refine wp_iconst (v := 1) dX11_mend_32 (by decide) ?_
        refine wp_goto (tgt := 37) dX11_mend_33 (by decide) ?_
        exact wp_zret dX11_mend_37 rfl (by decide) (by obtain rfl := sji h; exact ⟨rfl, rfl, rfl, rfl⟩)
  · have h := ite_t hc4 h
    refine wp_iconst (v := 0) dX11_mend_13 (by decide) ?_
    exact wp_zret dX11_mend_14 rfl (by decide) (by obtain rfl := sji h; exact ⟨rfl, rfl, rfl, rfl⟩)
def mX11_isSooner (a2 : Int32) (a3 : Int32) (I : gI) : Option (Int32) := Option.bind (mX11_setupOf a2 I) (fun r1 => Option.bind (mX11_setupOf a3 I) (fun r3 => if r1 = r3 then (Option.bind (mX11_holdOf a2 I) (fun r6 => Option.bind (mX11_holdOf a3 I) (fun r8 => if r8 ≤ r6 then (some 0) else (some 1)))) else (Option.bind (mX11_setupOf a2 I) (fun r11 => Option.bind (mX11_setupOf a3 I) (fun r13 => if r13 ≤ r11 then (some 0) else (some 1))))))
set_option maxHeartbeats 4000000 in
set_option maxRecDepth 100000 in
theorem ct_X11_isSooner (d : Nat) (hd : 1 ≤ d) {S : gS} {J : gJ} (hS : Sh S)  {a2 : Int32} {a3 : Int32} {I : gI} {r : Int32} (h : mX11_isSooner a2 a3 I = some r) : Ct yX11_isSooner (wsY yX11_isSooner cX11_isSooner 3 (some .boolean)) d 0 0 [.ref 310, .int a2, .int a3] S I J (qE (.inl (some (.int r))) S I J) := by
  refine Ct.of hF (fun _ _ _ _ _ => trivial) (by decide +kernel) (Nat.le_of_ble_eq_true rfl) ⟨Or.inl (sn310 hS), trivial, trivial, trivial⟩ ?_
  show Wp RX11 cX11_isSooner 3 (some .boolean) [] hF d 0 0 0 [(0, .ref 310), (1, .int a2), (2, .int a3)] [] S I J _
  unfold mX11_isSooner at h
  refine wp_aload_n dX11_isSooner_0 rfl rfl ?_
  refine wp_iload_n dX11_isSooner_1 rfl rfl ?_
  obtain ⟨r1, hF2, h⟩ := obi h
  refine wp_callVi (ci := 11) (As := [.int a2]) dX11_isSooner_2 lbX11_setupOf mlX11_258 imX11_setupOf seX11_setupOf vc11 (ct_X11_setupOf 0 (Nat.le_refl _) hS  hF2) rfl rfl (Nat.le_trans (by decide) hd) (sk310 hS) (sn310 hS) (Nat.le_of_ble_eq_true rfl) (fun _ => ?_)
  refine wp_aload_n dX11_isSooner_5 rfl rfl ?_
  refine wp_iload_n dX11_isSooner_6 rfl rfl ?_
  obtain ⟨r3, hF4, h⟩ := obi h
  refine wp_callVi (ci := 11) (As := [.int a3]) dX11_isSooner_7 lbX11_setupOf mlX11_258 imX11_setupOf seX11_setupOf vc11 (ct_X11_setupOf 0 (Nat.le_refl _) hS  hF4) rfl rfl (Nat.le_trans (by decide) hd) (sk310 hS) (sn310 hS) (Nat.le_of_ble_eq_true rfl) (fun _ => ?_)
  refine wp_icmp_eq (tgt := 32) dX11_isSooner_10 (by decide) (fun hc5 => ?_) (fun hc5 => ?_)
  · have h := ite_t hc5 h
    refine wp_aload_n dX11_isSooner_32 rfl rfl ?_
    refine wp_iload_n dX11_isSooner_33 rfl rfl ?_
    obtain ⟨r6, hF7, h⟩ := obi h
    refine wp_callVi (ci := 11) (As := [.int a2]) dX11_isSooner_34 lbX11_holdOf mlX11_223 imX11_holdOf seX11_holdOf vc11 (ct_X11_holdOf 0 (Nat.le_refl _) hS  hF7) rfl rfl (Nat.le_trans (by decide) hd) (sk310 hS) (sn310 hS) (Nat.le_of_ble_eq_true rfl) (fun _ => ?_)
    refine wp_aload_n dX11_isSooner_37 rfl rfl ?_
    refine wp_iload_n dX11_isSooner_38 rfl rfl ?_
    obtain ⟨r8, hF9, h⟩ := obi h
    refine wp_callVi (ci := 11) (As := [.int a3]) dX11_isSooner_39 lbX11_holdOf mlX11_223 imX11_holdOf seX11_holdOf vc11 (ct_X11_holdOf 0 (Nat.le_refl _) hS  hF9) rfl rfl (Nat.le_trans (by decide) hd) (sk310 hS) (sn310 hS) (Nat.le_of_ble_eq_true rfl) (fun _ => ?_)
    refine wp_icmp_ge (tgt := 49) dX11_isSooner_42 (by decide) (fun hc10 => ?_) (fun hc10 => ?_)
    · have h := ite_t hc10 h
      refine wp_iconst (v := 0) dX11_isSooner_49 (by decide) ?_
      exact wp_zret dX11_isSooner_50 rfl (by decide) (by obtain rfl := sji h; exact ⟨rfl, rfl, rfl, rfl⟩)
    · have h := ite_f hc10 h
      refine wp_iconst (v := 1) dX11_isSooner_45 (by decide) ?_
      refine wp_goto (tgt := 50) dX11_isSooner_46 (by decide) ?_
      exact wp_zret dX11_isSooner_50 rfl (by decide) (by obtain rfl := sji h; exact ⟨rfl, rfl, rfl, rfl⟩)
  · have h := ite_f hc5 h
    refine wp_aload_n dX11_isSooner_13 rfl rfl ?_
    refine wp_iload_n dX11_isSooner_14 rfl rfl ?_
    obtain ⟨r11, hF12, h⟩ := obi h
    refine wp_callVi (ci := 11) (As := [.int a2]) dX11_isSooner_15 lbX11_setupOf mlX11_258 imX11_setupOf seX11_setupOf vc11 (ct_X11_setupOf 0 (Nat.le_refl _) hS  hF12) rfl rfl (Nat.le_trans (by decide) hd) (sk310 hS) (sn310 hS) (Nat.le_of_ble_eq_true rfl) (fun _ => ?_)
    refine wp_aload_n dX11_isSooner_18 rfl rfl ?_
    refine wp_iload_n dX11_isSooner_19 rfl rfl ?_
    obtain ⟨r13, hF14, h⟩ := obi h
    refine wp_callVi (ci := 11) (As := [.int a3]) dX11_isSooner_20 lbX11_setupOf mlX11_258 imX11_setupOf seX11_setupOf vc11 (ct_X11_setupOf 0 (Nat.le_refl _) hS  hF14) rfl rfl (Nat.le_trans (by decide) hd) (sk310 hS) (sn310 hS) (Nat.le_of_ble_eq_true rfl) (fun _ => ?_)
    refine wp_icmp_ge (tgt := 30) dX11_isSooner_23 (by decide) (fun hc15 => ?_) (fun hc15 => ?_)
    · have h := ite_t hc15 h
      refine wp_iconst (v := 0) dX11_isSooner_30 (by decide) ?_
      exact wp_zret dX11_isSooner_31 rfl (by decide) (by obtain rfl := sji h; exact ⟨rfl, rfl, rfl, rfl⟩)
    · have h := ite_f hc15 h
      refine wp_iconst (v := 1) dX11_isSooner_26 (by decide) ?_
      refine wp_goto (tgt := 31) dX11_isSooner_27 (by decide) ?_
      exact wp_zret dX11_isSooner_31 rfl (by decide) (by obtain rfl := sji h; exact ⟨rfl, rfl, rfl, rfl⟩)
def mX11_laysPlan_6  : Nat → Int32 → gI → Option (gI)
  | 0, _, _ => none
  | n + 1, v1, I => if (I 310 15) ≤ v1 then (some I) else (ck (92 + v1) 164 (mX11_laysPlan_6 n (v1 + 1) (upd2 I 317 (92 + v1).toNatClampNeg (-1))))
def mX11_laysPlan_47 (k1 : Int32) (I : gI) : Nat → Int32 → Int32 → Option (Int32)
  | 0, _, _ => none
  | n + 1, v2, v3 => if (I 310 15) ≤ v3 then (some v2) else (if ((k1 >>> (v3 &&& 31)) &&& 1) = 1 then (if v2 = (-1) then (mX11_laysPlan_47 k1 I n v3 (v3 + 1)) else (Option.bind (mX11_isSooner v3 v2 I) (fun r10 => if r10 = 0 then (mX11_laysPlan_47 k1 I n v2 (v3 + 1)) else (mX11_laysPlan_47 k1 I n v3 (v3 + 1))))) else (mX11_laysPlan_47 k1 I n v2 (v3 + 1)))
def mX11_laysPlan_39 (N : Nat) : Nat → Int32 → gI → Option (gI)
  | 0, _, _ => none
  | n + 1, v1, I => if v1 = 0 then (some I) else (Option.bind (mX11_laysPlan_47 v1 I N (-1) 0) (fun y13 => ck (1 + y13) 164 (ck ((7 * y13) + 5) 63 (Option.bind (mX11_laysPools N 82 (-1) (I 317 (1 + y13).toNatClampNeg) 7 (I 315 ((7 * y13) + 5).toNatClampNeg) I) (fun I16 => ck (7 * y13) 63 (ck ((7 * y13) + 1) 63 (ck ((7 * y13) + 6) 63 (Option.bind (mX11_isFound N (I16 315 (7 * y13).toNatClampNeg) (I16 315 ((7 * y13) + 1).toNatClampNeg) (I16 315 ((7 * y13) + 6).toNatClampNeg) I16) (fun (r21, I22) => if r21 = 0 then (mX11_laysPlan_39 N n (v1 &&& (((1 : Int32) <<< (y13 &&& 31)) ^^^ (-1))) I22) else (Option.bind (mX11_takes N 82 y13 I22) (fun I25 => mX11_laysPlan_39 N n (v1 &&& (((1 : Int32) <<< (y13 &&& 31)) ^^^ (-1))) I25)))))))))))
def mX11_laysPlan_211 (k2 : Int32) : Nat → Int32 → gI → Option (gI)
  | 0, _, _ => none
  | n + 1, v3, I => if 7 ≤ v3 then (some I) else (ck ((101 + (7 * k2)) + v3) 164 (ck ((7 * k2) + v3) 63 (nm (upd2 I 326 ((7 * k2) + v3).toNatClampNeg (I 317 ((101 + (7 * k2)) + v3).toNatClampNeg)) (fun I40 => mX11_laysPlan_211 k2 n (v3 + 1) I40))))
def mX11_laysPlan_173 (N : Nat) : Nat → Int32 → gI → Option (gI)
  | 0, _, _ => none
  | n + 1, v2, I => if (I 310 15) ≤ v2 then (some I) else (ck (92 + v2) 164 (ck v2 9 (Option.bind (mX11_wayBits N 82 v2 (upd2 I 325 v2.toNatClampNeg (I 317 (92 + v2).toNatClampNeg))) (fun r33 => nm (upd2 (upd2 I 325 v2.toNatClampNeg (I 317 (92 + v2).toNatClampNeg)) 327 v2.toNatClampNeg r33) (fun I35 => Option.bind (mX11_laysPlan_211 v2 N 0 I35) (fun I42 => mX11_laysPlan_173 N n (v2 + 1) I42))))))
def mX11_laysPlan (N : Nat) (I : gI) : Option (gI) := Option.bind (mX11_tries N I) (fun I1 => Option.bind (mX11_laysPlan_6 N 0 I1) (fun I5 => Option.bind (mX11_laysPlan_39 N N (((1 : Int32) <<< ((I5 310 15) &&& 31)) - 1) I5) (fun I29 => Option.bind (mX11_laysPlan_173 N N 0 I29) (fun I45 => some I45))))
set_option maxHeartbeats 4000000 in
set_option maxRecDepth 100000 in
theorem wX11_laysPlan_6 (d : Nat) (hd : 3 ≤ d) {S : gS} {J : gJ} (hS : Sh S)  {Q : gO → gS → gI → gJ → Prop} :
    ∀ (n : Nat) (v1 : Int32) (I : gI) (res : gI), mX11_laysPlan_6 n v1 I = some res → (∀ (O : gI), res = O → Wp RX11 cX11_laysPlan 4 none [] hF d 0 0 30 [(0, .ref 310)] [] S O J Q) → Wp RX11 cX11_laysPlan 4 none [] hF d 0 0 6 [(0, .ref 310), (1, .int v1)] [] S I J Q := by
  intro n
  induction n with
  | zero => intro v1 I res h; exact nso h
  | succ n ih =>
    intro v1 I res h kx
    rw [mX11_laysPlan_6] at h
    refine wp_iload_n dX11_laysPlan_6 rfl rfl ?_
    refine wp_aload_n dX11_laysPlan_7 rfl rfl ?_
    refine wp_getI dX11_laysPlan_8 flX11_202 rfl (sk310 hS) (sn310 hS) ?_
    refine wp_icmp_ge (tgt := 30) dX11_laysPlan_11 (by decide) (fun hc3 => ?_) (fun hc3 => ?_)
    · have h := ite_t hc3 h
      exact wp_pick (ks := [0]) rfl (kx _ (sji h).symm)
    · have h := ite_f hc3 h
      refine wp_aload_n dX11_laysPlan_14 rfl rfl ?_
      refine wp_getR dX11_laysPlan_15 flX11_35 rfl (sk310 hS) (sn310 hS) (sr310_23 hS) ?_
      refine wp_bipush (v := 92) dX11_laysPlan_18 (by decide) ?_
      refine wp_iload_n dX11_laysPlan_20 rfl rfl ?_
      refine wp_iadd dX11_laysPlan_21 ?_
      refine wp_iconst (v := (-1)) dX11_laysPlan_22 (by decide) ?_
      obtain ⟨hb4, h⟩ := ck_inv h
      refine wp_iast dX11_laysPlan_23 (sk317 hS) (sn317 hS) hb4 ?_
      refine wp_iinc (v := 1) (ls' := [(1, .int (v1 + 1)), (0, .ref 310)]) dX11_laysPlan_24 rfl (by decide) (Nat.le_of_ble_eq_true rfl) rfl ?_
      refine wp_goto (tgt := 6) dX11_laysPlan_27 (by decide) ?_
      exact wp_pick (ks := [1, 0]) rfl (ih _ _ _ h kx)
set_option maxHeartbeats 4000000 in
set_option maxRecDepth 100000 in
theorem wX11_laysPlan_47 (d : Nat) (hd : 3 ≤ d) {S : gS} {J : gJ} (hS : Sh S)  (k1 : Int32) (I : gI) {Q : gO → gS → gI → gJ → Prop} :
    ∀ (n : Nat) (v2 : Int32) (v3 : Int32) (res : Int32), mX11_laysPlan_47 k1 I n v2 v3 = some res → (∀ (o2 : Int32), res = o2 → Wp RX11 cX11_laysPlan 4 none [] hF d 0 0 86 [(0, .ref 310), (1, .int k1), (2, .int o2)] [] S I J Q) → Wp RX11 cX11_laysPlan 4 none [] hF d 0 0 47 [(0, .ref 310), (1, .int k1), (2, .int v2), (3, .int v3)] [] S I J Q := by
  intro n
  induction n with
  | zero => intro v2 v3 res h; exact nso h
  | succ n ih =>
    intro v2 v3 res h kx
    rw [mX11_laysPlan_47] at h
    refine wp_iload_n dX11_laysPlan_47 rfl rfl ?_
    refine wp_aload_n dX11_laysPlan_48 rfl rfl ?_
    refine wp_getI dX11_laysPlan_49 flX11_202 rfl (sk310 hS) (sn310 hS) ?_
    refine wp_icmp_ge (tgt := 86) dX11_laysPlan_52 (by decide) (fun hc7 => ?_) (fun hc7 => ?_)
    · have h := ite_t hc7 h
      exact wp_pick (ks := [0, 1, 2]) rfl (kx _ (sji h).symm)
    · have h := ite_f hc7 h
      refine wp_iload_n dX11_laysPlan_55 rfl rfl ?_
      refine wp_iload_n dX11_laysPlan_56 rfl rfl ?_
      refine wp_ishr dX11_laysPlan_57 ?_
      refine wp_iconst (v := 1) dX11_laysPlan_58 (by decide) ?_
      refine wp_iand dX11_laysPlan_59 ?_
      refine wp_iconst (v := 1) dX11_laysPlan_60 (by decide) ?_
      refine wp_icmp_ne (tgt := 80) dX11_laysPlan_61 (by decide) (fun hc8 => ?_) (fun hc8 => ?_)
      · have h := ite_f hc8 h
        refine wp_iinc (v := 1) (ls' := [(3, .int (v3 + 1)), (0, .ref 310), (1, .int k1), (2, .int v2)]) dX11_laysPlan_80 rfl (by decide) (Nat.le_of_ble_eq_true rfl) rfl ?_
        refine wp_goto (tgt := 47) dX11_laysPlan_83 (by decide) ?_
        exact wp_pick (ks := [1, 2, 3, 0]) rfl (ih _ _ _ h kx)
      · have h := ite_t hc8 h
        refine wp_iload_n dX11_laysPlan_64 rfl rfl ?_
        refine wp_iconst (v := (-1)) dX11_laysPlan_65 (by decide) ?_
        refine wp_icmp_eq (tgt := 78) dX11_laysPlan_66 (by decide) (fun hc9 => ?_) (fun hc9 => ?_)
        · have h := ite_t hc9 h
          refine wp_iload_n dX11_laysPlan_78 rfl rfl ?_
          refine wp_istore_n (ls' := [(2, .int v3), (0, .ref 310), (1, .int k1), (3, .int v3)]) dX11_laysPlan_79 rfl (Nat.le_of_ble_eq_true rfl) rfl ?_
          refine wp_iinc (v := 1) (ls' := [(3, .int (v3 + 1)), (2, .int v3), (0, .ref 310), (1, .int k1)]) dX11_laysPlan_80 rfl (by decide) (Nat.le_of_ble_eq_true rfl) rfl ?_
          refine wp_goto (tgt := 47) dX11_laysPlan_83 (by decide) ?_
          exact wp_pick (ks := [2, 3, 1, 0]) rfl (ih _ _ _ h kx)
        · have h := ite_f hc9 h
          refine wp_aload_n dX11_laysPlan_69 rfl rfl ?_
          refine wp_iload_n dX11_laysPlan_70 rfl rfl ?_
          refine wp_iload_n dX11_laysPlan_71 rfl rfl ?_
          obtain ⟨r10, hF11, h⟩ := obi h
          refine wp_callVi (ci := 11) (As := [.int v3, .int v2]) dX11_laysPlan_72 lbX11_isSooner mlX11_362 imX11_isSooner seX11_isSooner vc11 (ct_X11_isSooner 1 (Nat.le_refl _) hS  hF11) rfl rfl (Nat.le_trans (by decide) hd) (sk310 hS) (sn310 hS) (Nat.le_of_ble_eq_true rfl) (fun _ => ?_)
          refine wp_if_eq (tgt := 80) dX11_laysPlan_75 (by decide) (fun hc12 => ?_) (fun hc12 => ?_)
          · have h := ite_t hc12 h
            refine wp_iinc (v := 1) (ls' := [(3, .int (v3 + 1)), (0, .ref 310), (1, .int k1), (2, .int v2)]) dX11_laysPlan_80 rfl (by decide) (Nat.le_of_ble_eq_true rfl) rfl ?_
            refine wp_goto (tgt := 47) dX11_laysPlan_83 (by decide) ?_
            exact wp_pick (ks := [1, 2, 3, 0]) rfl (ih _ _ _ h kx)
          · have h := ite_f hc12 h
            refine wp_iload_n dX11_laysPlan_78 rfl rfl ?_
            refine wp_istore_n (ls' := [(2, .int v3), (0, .ref 310), (1, .int k1), (3, .int v3)]) dX11_laysPlan_79 rfl (Nat.le_of_ble_eq_true rfl) rfl ?_
            refine wp_iinc (v := 1) (ls' := [(3, .int (v3 + 1)), (2, .int v3), (0, .ref 310), (1, .int k1)]) dX11_laysPlan_80 rfl (by decide) (Nat.le_of_ble_eq_true rfl) rfl ?_
            refine wp_goto (tgt := 47) dX11_laysPlan_83 (by decide) ?_
            exact wp_pick (ks := [2, 3, 1, 0]) rfl (ih _ _ _ h kx)
set_option maxHeartbeats 4000000 in
set_option maxRecDepth 100000 in
theorem wX11_laysPlan_39 (N : Nat) (d : Nat) (hd : 3 ≤ d) {S : gS} {J : gJ} (hS : Sh S)  {Q : gO → gS → gI → gJ → Prop} :
    ∀ (n : Nat) (v1 : Int32) (I : gI) (res : gI), mX11_laysPlan_39 N n v1 I = some res → (∀ (O : gI), res = O → Wp RX11 cX11_laysPlan 4 none [] hF d 0 0 171 [(0, .ref 310)] [] S O J Q) → Wp RX11 cX11_laysPlan 4 none [] hF d 0 0 39 [(0, .ref 310), (1, .int v1)] [] S I J Q := by
  intro n
  induction n with
  | zero => intro v1 I res h; exact nso h
  | succ n ih =>
    intro v1 I res h kx
    rw [mX11_laysPlan_39] at h
    refine wp_iload_n dX11_laysPlan_39 rfl rfl ?_
    refine wp_if_eq (tgt := 171) dX11_laysPlan_40 (by decide) (fun hc6 => ?_) (fun hc6 => ?_)
    · have h := ite_t hc6 h
      exact wp_pick (ks := [0]) rfl (kx _ (sji h).symm)
    · have h := ite_f hc6 h
      refine wp_iconst (v := (-1)) dX11_laysPlan_43 (by decide) ?_
      refine wp_istore_n (ls' := [(2, .int (-1)), (0, .ref 310), (1, .int v1)]) dX11_laysPlan_44 rfl (Nat.le_of_ble_eq_true rfl) rfl ?_
      refine wp_iconst (v := 0) dX11_laysPlan_45 (by decide) ?_
      refine wp_istore_n (ls' := [(3, .int 0), (2, .int (-1)), (0, .ref 310), (1, .int v1)]) dX11_laysPlan_46 rfl (Nat.le_of_ble_eq_true rfl) rfl ?_
      obtain ⟨y13, hL927, h⟩ := obi h
      refine wp_pick (ks := [2, 3, 1, 0]) rfl (wX11_laysPlan_47 d hd hS  v1 I N (-1) 0 _ hL927 (fun _ e28 => ?_))
      cases e28
      refine wp_iload_n dX11_laysPlan_86 rfl rfl ?_
      refine wp_iconst (v := 1) dX11_laysPlan_87 (by decide) ?_
      refine wp_iload_n dX11_laysPlan_88 rfl rfl ?_
      refine wp_ishl dX11_laysPlan_89 ?_
      refine wp_iconst (v := (-1)) dX11_laysPlan_90 (by decide) ?_
      refine wp_ixor dX11_laysPlan_91 ?_
      refine wp_iand dX11_laysPlan_92 ?_
      refine wp_istore_n (ls' := [(1, .int (v1 &&& (((1 : Int32) <<< (y13 &&& 31)) ^^^ (-1)))), (0, .ref 310), (2, .int y13)]) dX11_laysPlan_93 rfl (Nat.le_of_ble_eq_true rfl) rfl ?_
      refine wp_aload_n dX11_laysPlan_94 rfl rfl ?_
      refine wp_bipush (v := 82) dX11_laysPlan_95 (by decide) ?_
      refine wp_iconst (v := (-1)) dX11_laysPlan_97 (by decide) ?_
      refine wp_aload_n dX11_laysPlan_98 rfl rfl ?_
      refine wp_getR dX11_laysPlan_99 flX11_35 rfl (sk310 hS) (sn310 hS) (sr310_23 hS) ?_
      refine wp_iconst (v := 1) dX11_laysPlan_102 (by decide) ?_
      refine wp_iload_n dX11_laysPlan_103 rfl rfl ?_
      refine wp_iadd dX11_laysPlan_104 ?_
      obtain ⟨hb14, h⟩ := ck_inv h
      refine wp_iald dX11_laysPlan_105 (sk317 hS) (sn317 hS) hb14 ?_
      refine wp_bipush (v := 7) dX11_laysPlan_106 (by decide) ?_
      refine wp_aload_n dX11_laysPlan_108 rfl rfl ?_
      refine wp_getR dX11_laysPlan_109 flX11_29 rfl (sk310 hS) (sn310 hS) (sr310_21 hS) ?_
      refine wp_bipush (v := 7) dX11_laysPlan_112 (by decide) ?_
      refine wp_iload_n dX11_laysPlan_114 rfl rfl ?_
      refine wp_imul dX11_laysPlan_115 ?_
      refine wp_iconst (v := 5) dX11_laysPlan_116 (by decide) ?_
      refine wp_iadd dX11_laysPlan_117 ?_
      obtain ⟨hb15, h⟩ := ck_inv h
      refine wp_iald dX11_laysPlan_118 (sk315 hS) (sn315 hS) hb15 ?_
      obtain ⟨I16, hF17, h⟩ := obi h
      refine wp_callVv (ci := 11) (As := [.int 82, .int (-1), .int (I 317 (1 + y13).toNatClampNeg), .int 7, .int (I 315 ((7 * y13) + 5).toNatClampNeg)]) dX11_laysPlan_119 lbX11_laysPools mlX11_261 imX11_laysPools seX11_laysPools vc11 (ct_X11_laysPools N 2 (Nat.le_refl _) hS  hF17) rfl rfl (Nat.le_trans (by decide) hd) (sk310 hS) (sn310 hS) (Nat.le_of_ble_eq_true rfl) (fun _ => ?_)
      refine wp_aload_n dX11_laysPlan_122 rfl rfl ?_
      refine wp_aload_n dX11_laysPlan_123 rfl rfl ?_
      refine wp_getR dX11_laysPlan_124 flX11_29 rfl (sk310 hS) (sn310 hS) (sr310_21 hS) ?_
      refine wp_bipush (v := 7) dX11_laysPlan_127 (by decide) ?_
      refine wp_iload_n dX11_laysPlan_129 rfl rfl ?_
      refine wp_imul dX11_laysPlan_130 ?_
      obtain ⟨hb18, h⟩ := ck_inv h
      refine wp_iald dX11_laysPlan_131 (sk315 hS) (sn315 hS) hb18 ?_
      refine wp_aload_n dX11_laysPlan_132 rfl rfl ?_
      refine wp_getR dX11_laysPlan_133 flX11_29 rfl (sk310 hS) (sn310 hS) (sr310_21 hS) ?_
      refine wp_bipush (v := 7) dX11_laysPlan_136 (by decide) ?_
      refine wp_iload_n dX11_laysPlan_138 rfl rfl ?_
      refine wp_imul dX11_laysPlan_139 ?_
      refine wp_iconst (v := 1) dX11_laysPlan_140 (by decide) ?_
      refine wp_iadd dX11_laysPlan_141 ?_
      obtain ⟨hb19, h⟩ := ck_inv h
      refine wp_iald dX11_laysPlan_142 (sk315 hS) (sn315 hS) hb19 ?_
      refine wp_aload_n dX11_laysPlan_143 rfl rfl ?_
      refine wp_getR dX11_laysPlan_144 flX11_29 rfl (sk310 hS) (sn310 hS) (sr310_21 hS) ?_
      refine wp_bipush (v := 7) dX11_laysPlan_147 (by decide) ?_
      refine wp_iload_n dX11_laysPlan_149 rfl rfl ?_
      refine wp_imul dX11_laysPlan_150 ?_
      refine wp_bipush (v := 6) dX11_laysPlan_151 (by decide) ?_
      refine wp_iadd dX11_laysPlan_153 ?_
      obtain ⟨hb20, h⟩ := ck_inv h
      refine wp_iald dX11_laysPlan_154 (sk315 hS) (sn315 hS) hb20 ?_
      obtain ⟨⟨r21, I22⟩, hF23, h⟩ := obi h
      refine wp_callVi (ci := 11) (As := [.int (I16 315 (7 * y13).toNatClampNeg), .int (I16 315 ((7 * y13) + 1).toNatClampNeg), .int (I16 315 ((7 * y13) + 6).toNatClampNeg)]) dX11_laysPlan_155 lbX11_isFound mlX11_265 imX11_isFound seX11_isFound vc11 (ct_X11_isFound N 2 (Nat.le_refl _) hS  hF23) rfl rfl (Nat.le_trans (by decide) hd) (sk310 hS) (sn310 hS) (Nat.le_of_ble_eq_true rfl) (fun _ => ?_)
      refine wp_if_eq (tgt := 168) dX11_laysPlan_158 (by decide) (fun hc24 => ?_) (fun hc24 => ?_)
      · have h := ite_t hc24 h
        refine wp_goto (tgt := 39) dX11_laysPlan_168 (by decide) ?_
        exact wp_pick (ks := [1, 0]) rfl (ih _ _ _ h kx)
      · have h := ite_f hc24 h
        refine wp_aload_n dX11_laysPlan_161 rfl rfl ?_
        refine wp_bipush (v := 82) dX11_laysPlan_162 (by decide) ?_
        refine wp_iload_n dX11_laysPlan_164 rfl rfl ?_
        obtain ⟨I25, hF26, h⟩ := obi h
        refine wp_callVv (ci := 11) (As := [.int 82, .int y13]) dX11_laysPlan_165 lbX11_takes mlX11_290 imX11_takes seX11_takes vc11 (ct_X11_takes N 0 (Nat.le_refl _) hS  hF26) rfl rfl (Nat.le_trans (by decide) hd) (sk310 hS) (sn310 hS) (Nat.le_of_ble_eq_true rfl) (fun _ => ?_)
        refine wp_goto (tgt := 39) dX11_laysPlan_168 (by decide) ?_
        exact wp_pick (ks := [1, 0]) rfl (ih _ _ _ h kx)
set_option maxHeartbeats 4000000 in
set_option maxRecDepth 100000 in
theorem wX11_laysPlan_211 (d : Nat) (hd : 3 ≤ d) {S : gS} {J : gJ} (hS : Sh S)  (k2 : Int32) {Q : gO → gS → gI → gJ → Prop} :
    ∀ (n : Nat) (v3 : Int32) (I : gI) (res : gI), mX11_laysPlan_211 k2 n v3 I = some res → (∀ (O : gI), res = O → Wp RX11 cX11_laysPlan 4 none [] hF d 0 0 248 [(0, .ref 310), (2, .int k2)] [] S O J Q) → Wp RX11 cX11_laysPlan 4 none [] hF d 0 0 211 [(0, .ref 310), (2, .int k2), (3, .int v3)] [] S I J Q := by
  intro n
  induction n with
  | zero => intro v3 I res h; exact nso h
  | succ n ih =>
    intro v3 I res h kx
    rw [mX11_laysPlan_211] at h
    refine wp_iload_n dX11_laysPlan_211 rfl rfl ?_
    refine wp_bipush (v := 7) dX11_laysPlan_212 (by decide) ?_
    refine wp_icmp_ge (tgt := 248) dX11_laysPlan_214 (by decide) (fun hc37 => ?_) (fun hc37 => ?_)
    · have h := ite_t hc37 h
      exact wp_pick (ks := [0, 1]) rfl (kx _ (sji h).symm)
    · have h := ite_f hc37 h
      refine wp_aload_n dX11_laysPlan_217 rfl rfl ?_
      refine wp_getR dX11_laysPlan_218 flX11_63 rfl (sk310 hS) (sn310 hS) (sr310_38 hS) ?_
      refine wp_bipush (v := 7) dX11_laysPlan_221 (by decide) ?_
      refine wp_iload_n dX11_laysPlan_223 rfl rfl ?_
      refine wp_imul dX11_laysPlan_224 ?_
      refine wp_iload_n dX11_laysPlan_225 rfl rfl ?_
      refine wp_iadd dX11_laysPlan_226 ?_
      refine wp_aload_n dX11_laysPlan_227 rfl rfl ?_
      refine wp_getR dX11_laysPlan_228 flX11_35 rfl (sk310 hS) (sn310 hS) (sr310_23 hS) ?_
      refine wp_bipush (v := 101) dX11_laysPlan_231 (by decide) ?_
      refine wp_bipush (v := 7) dX11_laysPlan_233 (by decide) ?_
      refine wp_iload_n dX11_laysPlan_235 rfl rfl ?_
      refine wp_imul dX11_laysPlan_236 ?_
      refine wp_iadd dX11_laysPlan_237 ?_
      refine wp_iload_n dX11_laysPlan_238 rfl rfl ?_
      refine wp_iadd dX11_laysPlan_239 ?_
      obtain ⟨hb38, h⟩ := ck_inv h
      refine wp_iald dX11_laysPlan_240 (sk317 hS) (sn317 hS) hb38 ?_
      obtain ⟨hb39, h⟩ := ck_inv h
      refine wp_iast dX11_laysPlan_241 (sk326 hS) (sn326 hS) hb39 ?_
      obtain ⟨I40, hx41, h⟩ := nm_inv h
      refine wp_nmI hx41 ?_
      refine wp_iinc (v := 1) (ls' := [(3, .int (v3 + 1)), (0, .ref 310), (2, .int k2)]) dX11_laysPlan_242 rfl (by decide) (Nat.le_of_ble_eq_true rfl) rfl ?_
      refine wp_goto (tgt := 211) dX11_laysPlan_245 (by decide) ?_
      exact wp_pick (ks := [1, 2, 0]) rfl (ih _ _ _ h kx)
set_option maxHeartbeats 4000000 in
set_option maxRecDepth 100000 in
theorem wX11_laysPlan_173 (N : Nat) (d : Nat) (hd : 3 ≤ d) {S : gS} {J : gJ} (hS : Sh S)  {Q : gO → gS → gI → gJ → Prop} :
    ∀ (n : Nat) (v2 : Int32) (I : gI) (res : gI), mX11_laysPlan_173 N n v2 I = some res → (∀ (O : gI), res = O → Wp RX11 cX11_laysPlan 4 none [] hF d 0 0 254 [] [] S O J Q) → Wp RX11 cX11_laysPlan 4 none [] hF d 0 0 173 [(0, .ref 310), (2, .int v2)] [] S I J Q := by
  intro n
  induction n with
  | zero => intro v2 I res h; exact nso h
  | succ n ih =>
    intro v2 I res h kx
    rw [mX11_laysPlan_173] at h
    refine wp_iload_n dX11_laysPlan_173 rfl rfl ?_
    refine wp_aload_n dX11_laysPlan_174 rfl rfl ?_
    refine wp_getI dX11_laysPlan_175 flX11_202 rfl (sk310 hS) (sn310 hS) ?_
    refine wp_icmp_ge (tgt := 254) dX11_laysPlan_178 (by decide) (fun hc30 => ?_) (fun hc30 => ?_)
    · have h := ite_t hc30 h
      exact wp_pick (ks := []) rfl (kx _ (sji h).symm)
    · have h := ite_f hc30 h
      refine wp_aload_n dX11_laysPlan_181 rfl rfl ?_
      refine wp_getR dX11_laysPlan_182 flX11_60 rfl (sk310 hS) (sn310 hS) (sr310_37 hS) ?_
      refine wp_iload_n dX11_laysPlan_185 rfl rfl ?_
      refine wp_aload_n dX11_laysPlan_186 rfl rfl ?_
      refine wp_getR dX11_laysPlan_187 flX11_35 rfl (sk310 hS) (sn310 hS) (sr310_23 hS) ?_
      refine wp_bipush (v := 92) dX11_laysPlan_190 (by decide) ?_
      refine wp_iload_n dX11_laysPlan_192 rfl rfl ?_
      refine wp_iadd dX11_laysPlan_193 ?_
      obtain ⟨hb31, h⟩ := ck_inv h
      refine wp_iald dX11_laysPlan_194 (sk317 hS) (sn317 hS) hb31 ?_
      obtain ⟨hb32, h⟩ := ck_inv h
      refine wp_iast dX11_laysPlan_195 (sk325 hS) (sn325 hS) hb32 ?_
      refine wp_aload_n dX11_laysPlan_196 rfl rfl ?_
      refine wp_getR dX11_laysPlan_197 flX11_66 rfl (sk310 hS) (sn310 hS) (sr310_39 hS) ?_
      refine wp_iload_n dX11_laysPlan_200 rfl rfl ?_
      refine wp_aload_n dX11_laysPlan_201 rfl rfl ?_
      refine wp_bipush (v := 82) dX11_laysPlan_202 (by decide) ?_
      refine wp_iload_n dX11_laysPlan_204 rfl rfl ?_
      obtain ⟨r33, hF34, h⟩ := obi h
      refine wp_callVi (ci := 11) (As := [.int 82, .int v2]) dX11_laysPlan_205 lbX11_wayBits mlX11_226 imX11_wayBits seX11_wayBits vc11 (ct_X11_wayBits N 0 (Nat.le_refl _) hS  hF34) rfl rfl (Nat.le_trans (by decide) hd) (sk310 hS) (sn310 hS) (Nat.le_of_ble_eq_true rfl) (fun _ => ?_)
      refine wp_iast dX11_laysPlan_208 (sk327 hS) (sn327 hS) hb32 ?_
      obtain ⟨I35, hx36, h⟩ := nm_inv h
      refine wp_nmI hx36 ?_
      refine wp_iconst (v := 0) dX11_laysPlan_209 (by decide) ?_
      refine wp_istore_n (ls' := [(3, .int 0), (0, .ref 310), (2, .int v2)]) dX11_laysPlan_210 rfl (Nat.le_of_ble_eq_true rfl) rfl ?_
      obtain ⟨I42, hL943, h⟩ := obi h
      refine wp_pick (ks := [1, 2, 0]) rfl (wX11_laysPlan_211 d hd hS  v2 N 0 I35 _ hL943 (fun _ e44 => ?_))
      cases e44
      refine wp_iinc (v := 1) (ls' := [(2, .int (v2 + 1)), (0, .ref 310)]) dX11_laysPlan_248 rfl (by decide) (Nat.le_of_ble_eq_true rfl) rfl ?_
      refine wp_goto (tgt := 173) dX11_laysPlan_251 (by decide) ?_
      exact wp_pick (ks := [1, 0]) rfl (ih _ _ _ h kx)
set_option maxHeartbeats 4000000 in
set_option maxRecDepth 100000 in
theorem ct_X11_laysPlan (N : Nat) (d : Nat) (hd : 3 ≤ d) {S : gS} {J : gJ} (hS : Sh S)  {I : gI} {r : gI} (h : mX11_laysPlan N I = some r) : Ct yX11_laysPlan (wsY yX11_laysPlan cX11_laysPlan 4 none) d 0 0 [.ref 310] S I J (qE (.inl none) S r J) := by
  refine Ct.of hF (fun _ _ _ _ _ => trivial) (by decide +kernel) (Nat.le_of_ble_eq_true rfl) ⟨Or.inl (sn310 hS), trivial⟩ ?_
  show Wp RX11 cX11_laysPlan 4 none [] hF d 0 0 0 [(0, .ref 310)] [] S I J _
  unfold mX11_laysPlan at h
  refine wp_aload_n dX11_laysPlan_0 rfl rfl ?_
  obtain ⟨I1, hF2, h⟩ := obi h
  refine wp_callVv (ci := 11) (As := []) dX11_laysPlan_1 lbX11_tries mlX11_303 imX11_tries seX11_tries vc11 (ct_X11_tries N 0 (Nat.le_refl _) hS  hF2) rfl rfl (Nat.le_trans (by decide) hd) (sk310 hS) (sn310 hS) (Nat.le_of_ble_eq_true rfl) (fun _ => ?_)
  refine wp_iconst (v := 0) dX11_laysPlan_4 (by decide) ?_
  refine wp_istore_n (ls' := [(1, .int 0), (0, .ref 310)]) dX11_laysPlan_5 rfl (Nat.le_of_ble_eq_true rfl) rfl ?_
  obtain ⟨I5, hL950, h⟩ := obi h
  refine wp_pick (ks := [1, 0]) rfl (wX11_laysPlan_6 d hd hS   N 0 I1 _ hL950 (fun _ e51 => ?_))
  cases e51
  refine wp_iconst (v := 1) dX11_laysPlan_30 (by decide) ?_
  refine wp_aload_n dX11_laysPlan_31 rfl rfl ?_
  refine wp_getI dX11_laysPlan_32 flX11_202 rfl (sk310 hS) (sn310 hS) ?_
  refine wp_ishl dX11_laysPlan_35 ?_
  refine wp_iconst (v := 1) dX11_laysPlan_36 (by decide) ?_
  refine wp_isub dX11_laysPlan_37 ?_
  refine wp_istore_n (ls' := [(1, .int (((1 : Int32) <<< ((I5 310 15) &&& 31)) - 1)), (0, .ref 310)]) dX11_laysPlan_38 rfl (Nat.le_of_ble_eq_true rfl) rfl ?_
  obtain ⟨I29, hL948, h⟩ := obi h
  refine wp_pick (ks := [1, 0]) rfl (wX11_laysPlan_39 N d hd hS   N (((1 : Int32) <<< ((I5 310 15) &&& 31)) - 1) I5 _ hL948 (fun _ e49 => ?_))
  cases e49
  refine wp_iconst (v := 0) dX11_laysPlan_171 (by decide) ?_
  refine wp_istore_n (ls' := [(2, .int 0), (0, .ref 310)]) dX11_laysPlan_172 rfl (Nat.le_of_ble_eq_true rfl) rfl ?_
  obtain ⟨I45, hL946, h⟩ := obi h
  refine wp_pick (ks := [1, 0]) rfl (wX11_laysPlan_173 N d hd hS   N 0 I29 _ hL946 (fun _ e47 => ?_))
  cases e47
  exact wp_vret dX11_laysPlan_254 rfl (by obtain rfl := sji h; exact ⟨rfl, rfl, rfl, rfl⟩)
def mX11_planned (N : Nat) (a2 : Int32) (a3 : Int32) (I : gI) : Option (Int32 × gI) := Option.bind (mX11_isTunnel a2 (upd2 I 310 0 0)) (fun (r1, I2) => if r1 = 0 then (some (0, I2)) else (Option.bind (if a3 < 0 then (some 0) else (some 1) : Option (Int32)) (fun x5 => Option.bind (mX11_right x5 1 I2) (fun (r7, I8) => if r7 = 0 then (some (0, I8)) else (Option.bind (mX11_laysPlan N I8) (fun I11 => ck a2 9 (if (I11 325 a2.toNatClampNeg) ≤ a3 then (some ((-1), I11)) else (ck ((7 * a2) + a3) 63 (some (I11 326 ((7 * a2) + a3).toNatClampNeg, I11))))))))))
set_option maxHeartbeats 4000000 in
set_option maxRecDepth 100000 in
theorem ct_X11_planned (N : Nat) (d : Nat) (hd : 4 ≤ d) {S : gS} {J : gJ} (hS : Sh S)  {a2 : Int32} {a3 : Int32} {I : gI} {r : Int32 × gI} (h : mX11_planned N a2 a3 I = some r) : Ct yX11_planned (wsY yX11_planned cX11_planned 3 (some .int)) d 0 0 [.ref 310, .int a2, .int a3] S I J (qE (.inl (some (.int r.1))) S r.2 J) := by
  refine Ct.of hF (fun _ _ _ _ _ => trivial) (by decide +kernel) (Nat.le_of_ble_eq_true rfl) ⟨Or.inl (sn310 hS), trivial, trivial, trivial⟩ ?_
  show Wp RX11 cX11_planned 3 (some .int) [] hF d 0 0 0 [(0, .ref 310), (1, .int a2), (2, .int a3)] [] S I J _
  unfold mX11_planned at h
  refine wp_aload_n dX11_planned_0 rfl rfl ?_
  refine wp_iconst (v := 0) dX11_planned_1 (by decide) ?_
  refine wp_putI dX11_planned_2 (Or.inl fpX11_96) rfl ⟨rfl, rfl⟩ (sk310 hS) (sn310 hS) ?_
  refine wp_aload_n dX11_planned_5 rfl rfl ?_
  refine wp_iload_n dX11_planned_6 rfl rfl ?_
  obtain ⟨⟨r1, I2⟩, hF3, h⟩ := obi h
  refine wp_callVi (ci := 11) (As := [.int a2]) dX11_planned_7 lbX11_isTunnel mlX11_347 imX11_isTunnel seX11_isTunnel vc11 (ct_X11_isTunnel 1 (Nat.le_refl _) hS  hF3) rfl rfl (Nat.le_trans (by decide) hd) (sk310 hS) (sn310 hS) (Nat.le_of_ble_eq_true rfl) (fun _ => ?_)
  refine wp_if_eq (tgt := 30) dX11_planned_10 (by decide) (fun hc4 => ?_) (fun hc4 => ?_)
  · have h := ite_t hc4 h
    refine wp_iconst (v := 0) dX11_planned_30 (by decide) ?_
    exact wp_iret dX11_planned_31 rfl (by obtain rfl := sji h; exact ⟨rfl, rfl, rfl, rfl⟩)
  · have h := ite_f hc4 h
    refine wp_aload_n dX11_planned_13 rfl rfl ?_
    refine wp_iload_n dX11_planned_14 rfl rfl ?_
    obtain ⟨x5, hh16, h⟩ := obi h
    have hJ : Wp RX11 cX11_planned 3 (some .int) [] hF d 0 0 23 [(0, .ref 310), (1, .int a2), (2, .int a3)] [.int x5, .ref 310] S I2 J (qE (.inl (some (.int r.1))) S r.2 J) := by
      refine wp_iconst (v := 1) dX11_planned_23 (by decide) ?_
      obtain ⟨⟨r7, I8⟩, hF9, h⟩ := obi h
      refine wp_callVi (ci := 11) (As := [.int x5, .int 1]) dX11_planned_24 lbX11_right mlX11_192 imX11_right seX11_right vc11 (ct_X11_right 0 (Nat.le_refl _) hS  hF9) rfl rfl (Nat.le_trans (by decide) hd) (sk310 hS) (sn310 hS) (Nat.le_of_ble_eq_true rfl) (fun _ => ?_)
      refine wp_if_ne (tgt := 32) dX11_planned_27 (by decide) (fun hc10 => ?_) (fun hc10 => ?_)
      · have h := ite_f hc10 h
        refine wp_aload_n dX11_planned_32 rfl rfl ?_
        obtain ⟨I11, hF12, h⟩ := obi h
        refine wp_callVv (ci := 11) (As := []) dX11_planned_33 lbX11_laysPlan mlX11_365 imX11_laysPlan seX11_laysPlan vc11 (ct_X11_laysPlan N 3 (Nat.le_refl _) hS  hF12) rfl rfl (Nat.le_trans (by decide) hd) (sk310 hS) (sn310 hS) (Nat.le_of_ble_eq_true rfl) (fun _ => ?_)
        refine wp_iload_n dX11_planned_36 rfl rfl ?_
        refine wp_aload_n dX11_planned_37 rfl rfl ?_
        refine wp_getR dX11_planned_38 flX11_60 rfl (sk310 hS) (sn310 hS) (sr310_37 hS) ?_
        refine wp_iload_n dX11_planned_41 rfl rfl ?_
        obtain ⟨hb13, h⟩ := ck_inv h
        refine wp_iald dX11_planned_42 (sk325 hS) (sn325 hS) hb13 ?_
        refine wp_icmp_ge (tgt := 60) dX11_planned_43 (by decide) (fun hc14 => ?_) (fun hc14 => ?_)
        · have h := ite_t hc14 h
          refine wp_iconst (v := (-1)) dX11_planned_60 (by decide) ?_
          exact wp_iret dX11_planned_61 rfl (by obtain rfl := sji h; exact ⟨rfl, rfl, rfl, rfl⟩)
        · have h := ite_f hc14 h
          refine wp_aload_n dX11_planned_46 rfl rfl ?_
          refine wp_getR dX11_planned_47 flX11_63 rfl (sk310 hS) (sn310 hS) (sr310_38 hS) ?_
          refine wp_bipush (v := 7) dX11_planned_50 (by decide) ?_
          refine wp_iload_n dX11_planned_52 rfl rfl ?_
          refine wp_imul dX11_planned_53 ?_
          refine wp_iload_n dX11_planned_54 rfl rfl ?_
          refine wp_iadd dX11_planned_55 ?_
          obtain ⟨hb15, h⟩ := ck_inv h
          refine wp_iald dX11_planned_56 (sk326 hS) (sn326 hS) hb15 ?_
          refine wp_goto (tgt := 61) dX11_planned_57 (by decide) ?_
          exact wp_iret dX11_planned_61 rfl (by obtain rfl := sji h; exact ⟨rfl, rfl, rfl, rfl⟩)
      · have h := ite_t hc10 h
        refine wp_iconst (v := 0) dX11_planned_30 (by decide) ?_
        exact wp_iret dX11_planned_31 rfl (by obtain rfl := sji h; exact ⟨rfl, rfl, rfl, rfl⟩)
    clear h
    have h := hh16
    clear hh16
    refine wp_if_lt (tgt := 22) dX11_planned_15 (by decide) (fun hc6 => ?_) (fun hc6 => ?_)
    · have h := ite_t hc6 h
      refine wp_iconst (v := 0) dX11_planned_22 (by decide) ?_
      cases h
      exact wp_pick (ks := [0, 1, 2]) rfl hJ
    · have h := ite_f hc6 h
      refine wp_iconst (v := 1) dX11_planned_18 (by decide) ?_
      refine wp_goto (tgt := 23) dX11_planned_19 (by decide) ?_
      cases h
      exact wp_pick (ks := [0, 1, 2]) rfl hJ
def mX11_toMove_61 (k1 : Int32) (k2 : Int32) (I : gI) : Nat → Int32 → Int32 → Option (Int32)
  | 0, _, _ => none
  | n + 1, v3, v4 => ck k2 9 (if (I 325 k2.toNatClampNeg) ≤ v4 then (some v3) else (if v3 = 0 then (some v3) else (ck ((7 * k2) + v4) 63 (ck ((19 + (7 * k2)) + v4) 164 (if (I 326 ((7 * k2) + v4).toNatClampNeg) = (I 317 ((19 + (7 * k2)) + v4).toNatClampNeg) then (mX11_toMove_61 k1 k2 I n 1 (v4 + 1)) else (mX11_toMove_61 k1 k2 I n 0 (v4 + 1)))))))
def mX11_toMove_4 (N : Nat) (I : gI) : Nat → Int32 → Int32 → Option (Int32)
  | 0, _, _ => none
  | n + 1, v1, v2 => if (I 310 15) ≤ v2 then (some v1) else (Option.bind (mX11_doesStand 0 v2 I) (fun r2 => if r2 = 0 then (mX11_toMove_4 N I n v1 (v2 + 1)) else (ck v2 9 (if (I 325 v2.toNatClampNeg) = (-1) then (mX11_toMove_4 N I n v1 (v2 + 1)) else (ck (10 + v2) 164 (Option.bind (if (I 325 v2.toNatClampNeg) = (I 317 (10 + v2).toNatClampNeg) then (some 1) else (some 0) : Option (Int32)) (fun x8 => Option.bind (mX11_toMove_61 v1 v2 I N x8 0) (fun y16 => if y16 = 0 then (mX11_toMove_4 N I n (v1 ||| ((1 : Int32) <<< (v2 &&& 31))) (v2 + 1)) else (mX11_toMove_4 N I n (v1 ||| 0) (v2 + 1))))))))))
def mX11_toMove (N : Nat) (I : gI) : Option (Int32) := Option.bind (mX11_toMove_4 N I N 0 0) (fun y21 => some y21)
set_option maxHeartbeats 4000000 in
set_option maxRecDepth 100000 in
theorem wX11_toMove_61 (d : Nat) (hd : 1 ≤ d) {S : gS} {J : gJ} (hS : Sh S)  (k1 : Int32) (k2 : Int32) (I : gI) {Q : gO → gS → gI → gJ → Prop} :
    ∀ (n : Nat) (v3 : Int32) (v4 : Int32) (res : Int32), mX11_toMove_61 k1 k2 I n v3 v4 = some res → (∀ (o3 : Int32), res = o3 → Wp RX11 cX11_toMove 5 (some .int) [] hF d 0 0 118 [(0, .ref 310), (1, .int k1), (2, .int k2), (3, .int o3)] [] S I J Q) → Wp RX11 cX11_toMove 5 (some .int) [] hF d 0 0 61 [(0, .ref 310), (1, .int k1), (2, .int k2), (3, .int v3), (4, .int v4)] [] S I J Q := by
  intro n
  induction n with
  | zero => intro v3 v4 res h; exact nso h
  | succ n ih =>
    intro v3 v4 res h kx
    rw [mX11_toMove_61] at h
    refine wp_iload dX11_toMove_61 rfl ?_
    refine wp_aload_n dX11_toMove_63 rfl rfl ?_
    refine wp_getR dX11_toMove_64 flX11_60 rfl (sk310 hS) (sn310 hS) (sr310_37 hS) ?_
    refine wp_iload_n dX11_toMove_67 rfl rfl ?_
    obtain ⟨hb10, h⟩ := ck_inv h
    refine wp_iald dX11_toMove_68 (sk325 hS) (sn325 hS) hb10 ?_
    refine wp_icmp_ge (tgt := 118) dX11_toMove_69 (by decide) (fun hc11 => ?_) (fun hc11 => ?_)
    · have h := ite_t hc11 h
      exact wp_pick (ks := [0, 1, 2, 3]) rfl (kx _ (sji h).symm)
    · have h := ite_f hc11 h
      refine wp_iload_n dX11_toMove_72 rfl rfl ?_
      refine wp_if_eq (tgt := 118) dX11_toMove_73 (by decide) (fun hc12 => ?_) (fun hc12 => ?_)
      · have h := ite_t hc12 h
        exact wp_pick (ks := [0, 1, 2, 3]) rfl (kx _ (sji h).symm)
      · have h := ite_f hc12 h
        refine wp_aload_n dX11_toMove_76 rfl rfl ?_
        refine wp_getR dX11_toMove_77 flX11_63 rfl (sk310 hS) (sn310 hS) (sr310_38 hS) ?_
        refine wp_bipush (v := 7) dX11_toMove_80 (by decide) ?_
        refine wp_iload_n dX11_toMove_82 rfl rfl ?_
        refine wp_imul dX11_toMove_83 ?_
        refine wp_iload dX11_toMove_84 rfl ?_
        refine wp_iadd dX11_toMove_86 ?_
        obtain ⟨hb13, h⟩ := ck_inv h
        refine wp_iald dX11_toMove_87 (sk326 hS) (sn326 hS) hb13 ?_
        refine wp_aload_n dX11_toMove_88 rfl rfl ?_
        refine wp_getR dX11_toMove_89 flX11_35 rfl (sk310 hS) (sn310 hS) (sr310_23 hS) ?_
        refine wp_bipush (v := 19) dX11_toMove_92 (by decide) ?_
        refine wp_bipush (v := 7) dX11_toMove_94 (by decide) ?_
        refine wp_iload_n dX11_toMove_96 rfl rfl ?_
        refine wp_imul dX11_toMove_97 ?_
        refine wp_iadd dX11_toMove_98 ?_
        refine wp_iload dX11_toMove_99 rfl ?_
        refine wp_iadd dX11_toMove_101 ?_
        obtain ⟨hb14, h⟩ := ck_inv h
        refine wp_iald dX11_toMove_102 (sk317 hS) (sn317 hS) hb14 ?_
        refine wp_icmp_ne (tgt := 110) dX11_toMove_103 (by decide) (fun hc15 => ?_) (fun hc15 => ?_)
        · have h := ite_f hc15 h
          refine wp_iconst (v := 0) dX11_toMove_110 (by decide) ?_
          refine wp_istore_n (ls' := [(3, .int 0), (0, .ref 310), (1, .int k1), (2, .int k2), (4, .int v4)]) dX11_toMove_111 rfl (Nat.le_of_ble_eq_true rfl) rfl ?_
          refine wp_iinc (v := 1) (ls' := [(4, .int (v4 + 1)), (3, .int 0), (0, .ref 310), (1, .int k1), (2, .int k2)]) dX11_toMove_112 rfl (by decide) (Nat.le_of_ble_eq_true rfl) rfl ?_
          refine wp_goto (tgt := 61) dX11_toMove_115 (by decide) ?_
          exact wp_pick (ks := [2, 3, 4, 1, 0]) rfl (ih _ _ _ h kx)
        · have h := ite_t hc15 h
          refine wp_iconst (v := 1) dX11_toMove_106 (by decide) ?_
          refine wp_goto (tgt := 111) dX11_toMove_107 (by decide) ?_
          refine wp_istore_n (ls' := [(3, .int 1), (0, .ref 310), (1, .int k1), (2, .int k2), (4, .int v4)]) dX11_toMove_111 rfl (Nat.le_of_ble_eq_true rfl) rfl ?_
          refine wp_iinc (v := 1) (ls' := [(4, .int (v4 + 1)), (3, .int 1), (0, .ref 310), (1, .int k1), (2, .int k2)]) dX11_toMove_112 rfl (by decide) (Nat.le_of_ble_eq_true rfl) rfl ?_
          refine wp_goto (tgt := 61) dX11_toMove_115 (by decide) ?_
          exact wp_pick (ks := [2, 3, 4, 1, 0]) rfl (ih _ _ _ h kx)
set_option maxHeartbeats 4000000 in
set_option maxRecDepth 100000 in
theorem wX11_toMove_4 (N : Nat) (d : Nat) (hd : 1 ≤ d) {S : gS} {J : gJ} (hS : Sh S)  (I : gI) {Q : gO → gS → gI → gJ → Prop} :
    ∀ (n : Nat) (v1 : Int32) (v2 : Int32) (res : Int32), mX11_toMove_4 N I n v1 v2 = some res → (∀ (o1 : Int32), res = o1 → Wp RX11 cX11_toMove 5 (some .int) [] hF d 0 0 138 [(1, .int o1)] [] S I J Q) → Wp RX11 cX11_toMove 5 (some .int) [] hF d 0 0 4 [(0, .ref 310), (1, .int v1), (2, .int v2)] [] S I J Q := by
  intro n
  induction n with
  | zero => intro v1 v2 res h; exact nso h
  | succ n ih =>
    intro v1 v2 res h kx
    rw [mX11_toMove_4] at h
    refine wp_iload_n dX11_toMove_4 rfl rfl ?_
    refine wp_aload_n dX11_toMove_5 rfl rfl ?_
    refine wp_getI dX11_toMove_6 flX11_202 rfl (sk310 hS) (sn310 hS) ?_
    refine wp_icmp_ge (tgt := 138) dX11_toMove_9 (by decide) (fun hc1 => ?_) (fun hc1 => ?_)
    · have h := ite_t hc1 h
      exact wp_pick (ks := [1]) rfl (kx _ (sji h).symm)
    · have h := ite_f hc1 h
      refine wp_aload_n dX11_toMove_12 rfl rfl ?_
      refine wp_iconst (v := 0) dX11_toMove_13 (by decide) ?_
      refine wp_iload_n dX11_toMove_14 rfl rfl ?_
      obtain ⟨r2, hF3, h⟩ := obi h
      refine wp_callVi (ci := 11) (As := [.int 0, .int v2]) dX11_toMove_15 lbX11_doesStand mlX11_219 imX11_doesStand seX11_doesStand vc11 (ct_X11_doesStand 0 (Nat.le_refl _) hS  hF3) rfl rfl (Nat.le_trans (by decide) hd) (sk310 hS) (sn310 hS) (Nat.le_of_ble_eq_true rfl) (fun _ => ?_)
      refine wp_if_eq (tgt := 132) dX11_toMove_18 (by decide) (fun hc4 => ?_) (fun hc4 => ?_)
      · have h := ite_t hc4 h
        refine wp_iinc (v := 1) (ls' := [(2, .int (v2 + 1)), (0, .ref 310), (1, .int v1)]) dX11_toMove_132 rfl (by decide) (Nat.le_of_ble_eq_true rfl) rfl ?_
        refine wp_goto (tgt := 4) dX11_toMove_135 (by decide) ?_
        exact wp_pick (ks := [1, 2, 0]) rfl (ih _ _ _ h kx)
      · have h := ite_f hc4 h
        refine wp_aload_n dX11_toMove_21 rfl rfl ?_
        refine wp_getR dX11_toMove_22 flX11_60 rfl (sk310 hS) (sn310 hS) (sr310_37 hS) ?_
        refine wp_iload_n dX11_toMove_25 rfl rfl ?_
        obtain ⟨hb5, h⟩ := ck_inv h
        refine wp_iald dX11_toMove_26 (sk325 hS) (sn325 hS) hb5 ?_
        refine wp_iconst (v := (-1)) dX11_toMove_27 (by decide) ?_
        refine wp_icmp_ne (tgt := 34) dX11_toMove_28 (by decide) (fun hc6 => ?_) (fun hc6 => ?_)
        · have h := ite_f hc6 h
          refine wp_aload_n dX11_toMove_34 rfl rfl ?_
          refine wp_getR dX11_toMove_35 flX11_60 rfl (sk310 hS) (sn310 hS) (sr310_37 hS) ?_
          refine wp_iload_n dX11_toMove_38 rfl rfl ?_
          refine wp_iald dX11_toMove_39 (sk325 hS) (sn325 hS) hb5 ?_
          refine wp_aload_n dX11_toMove_40 rfl rfl ?_
          refine wp_getR dX11_toMove_41 flX11_35 rfl (sk310 hS) (sn310 hS) (sr310_23 hS) ?_
          refine wp_bipush (v := 10) dX11_toMove_44 (by decide) ?_
          refine wp_iload_n dX11_toMove_46 rfl rfl ?_
          refine wp_iadd dX11_toMove_47 ?_
          obtain ⟨hb7, h⟩ := ck_inv h
          refine wp_iald dX11_toMove_48 (sk317 hS) (sn317 hS) hb7 ?_
          obtain ⟨x8, hh20, h⟩ := obi h
          have hJ : Wp RX11 cX11_toMove 5 (some .int) [] hF d 0 0 57 [(0, .ref 310), (1, .int v1), (2, .int v2)] [.int x8] S I J Q := by
            refine wp_istore_n (ls' := [(3, .int x8), (0, .ref 310), (1, .int v1), (2, .int v2)]) dX11_toMove_57 rfl (Nat.le_of_ble_eq_true rfl) rfl ?_
            refine wp_iconst (v := 0) dX11_toMove_58 (by decide) ?_
            refine wp_istore (ls' := [(4, .int 0), (3, .int x8), (0, .ref 310), (1, .int v1), (2, .int v2)]) dX11_toMove_59 (Nat.le_of_ble_eq_true rfl) rfl ?_
            obtain ⟨y16, hL918, h⟩ := obi h
            refine wp_pick (ks := [2, 3, 4, 1, 0]) rfl (wX11_toMove_61 d hd hS  v1 v2 I N x8 0 _ hL918 (fun _ e19 => ?_))
            cases e19
            refine wp_iload_n dX11_toMove_118 rfl rfl ?_
            refine wp_iload_n dX11_toMove_119 rfl rfl ?_
            refine wp_if_eq (tgt := 127) dX11_toMove_120 (by decide) (fun hc17 => ?_) (fun hc17 => ?_)
            · have h := ite_t hc17 h
              refine wp_iconst (v := 1) dX11_toMove_127 (by decide) ?_
              refine wp_iload_n dX11_toMove_128 rfl rfl ?_
              refine wp_ishl dX11_toMove_129 ?_
              refine wp_ior dX11_toMove_130 ?_
              refine wp_istore_n (ls' := [(1, .int (v1 ||| ((1 : Int32) <<< (v2 &&& 31)))), (0, .ref 310), (2, .int v2), (3, .int y16)]) dX11_toMove_131 rfl (Nat.le_of_ble_eq_true rfl) rfl ?_
              refine wp_iinc (v := 1) (ls' := [(2, .int (v2 + 1)), (1, .int (v1 ||| ((1 : Int32) <<< (v2 &&& 31)))), (0, .ref 310), (3, .int y16)]) dX11_toMove_132 rfl (by decide) (Nat.le_of_ble_eq_true rfl) rfl ?_
              refine wp_goto (tgt := 4) dX11_toMove_135 (by decide) ?_
              exact wp_pick (ks := [2, 1, 0]) rfl (ih _ _ _ h kx)
            · have h := ite_f hc17 h
              refine wp_iconst (v := 0) dX11_toMove_123 (by decide) ?_
              refine wp_goto (tgt := 130) dX11_toMove_124 (by decide) ?_
              refine wp_ior dX11_toMove_130 ?_
              refine wp_istore_n (ls' := [(1, .int (v1 ||| 0)), (0, .ref 310), (2, .int v2), (3, .int y16)]) dX11_toMove_131 rfl (Nat.le_of_ble_eq_true rfl) rfl ?_
              refine wp_iinc (v := 1) (ls' := [(2, .int (v2 + 1)), (1, .int (v1 ||| 0)), (0, .ref 310), (3, .int y16)]) dX11_toMove_132 rfl (by decide) (Nat.le_of_ble_eq_true rfl) rfl ?_
              refine wp_goto (tgt := 4) dX11_toMove_135 (by decide) ?_
              exact wp_pick (ks := [2, 1, 0]) rfl (ih _ _ _ h kx)
          clear h
          have h := hh20
          clear hh20
          refine wp_icmp_ne (tgt := 56) dX11_toMove_49 (by decide) (fun hc9 => ?_) (fun hc9 => ?_)
          · have h := ite_f hc9 h
            refine wp_iconst (v := 0) dX11_toMove_56 (by decide) ?_
            cases h
            exact wp_pick (ks := [0, 1, 2]) rfl hJ
          · have h := ite_t hc9 h
            refine wp_iconst (v := 1) dX11_toMove_52 (by decide) ?_
            refine wp_goto (tgt := 57) dX11_toMove_53 (by decide) ?_
            cases h
            exact wp_pick (ks := [0, 1, 2]) rfl hJ
        · have h := ite_t hc6 h
          refine wp_goto (tgt := 132) dX11_toMove_31 (by decide) ?_
          refine wp_iinc (v := 1) (ls' := [(2, .int (v2 + 1)), (0, .ref 310), (1, .int v1)]) dX11_toMove_132 rfl (by decide) (Nat.le_of_ble_eq_true rfl) rfl ?_
          refine wp_goto (tgt := 4) dX11_toMove_135 (by decide) ?_
          exact wp_pick (ks := [1, 2, 0]) rfl (ih _ _ _ h kx)
set_option maxHeartbeats 4000000 in
set_option maxRecDepth 100000 in
theorem ct_X11_toMove (N : Nat) (d : Nat) (hd : 1 ≤ d) {S : gS} {J : gJ} (hS : Sh S)  {I : gI} {r : Int32} (h : mX11_toMove N I = some r) : Ct yX11_toMove (wsY yX11_toMove cX11_toMove 5 (some .int)) d 0 0 [.ref 310] S I J (qE (.inl (some (.int r))) S I J) := by
  refine Ct.of hF (fun _ _ _ _ _ => trivial) (by decide +kernel) (Nat.le_of_ble_eq_true rfl) ⟨Or.inl (sn310 hS), trivial⟩ ?_
  show Wp RX11 cX11_toMove 5 (some .int) [] hF d 0 0 0 [(0, .ref 310)] [] S I J _
  unfold mX11_toMove at h
  refine wp_iconst (v := 0) dX11_toMove_0 (by decide) ?_
  refine wp_istore_n (ls' := [(1, .int 0), (0, .ref 310)]) dX11_toMove_1 rfl (Nat.le_of_ble_eq_true rfl) rfl ?_
  refine wp_iconst (v := 0) dX11_toMove_2 (by decide) ?_
  refine wp_istore_n (ls' := [(2, .int 0), (1, .int 0), (0, .ref 310)]) dX11_toMove_3 rfl (Nat.le_of_ble_eq_true rfl) rfl ?_
  obtain ⟨y21, hL922, h⟩ := obi h
  refine wp_pick (ks := [2, 1, 0]) rfl (wX11_toMove_4 N d hd hS  I N 0 0 _ hL922 (fun _ e23 => ?_))
  cases e23
  refine wp_iload_n dX11_toMove_138 rfl rfl ?_
  exact wp_iret dX11_toMove_139 rfl (by obtain rfl := sji h; exact ⟨rfl, rfl, rfl, rfl⟩)
def mX11_isBooked_18 (N : Nat) (k1 : Int32) (k2 : Int32) (k3 : Int32) (k4 : Int32) (I : gI) : Nat → Int32 → Int32 → Option (Int32)
  | 0, _, _ => none
  | n + 1, v5, v6 => if (I 310 15) ≤ v6 then (some v5) else (if ((k3 >>> (v6 &&& 31)) &&& 1) = 1 then (mX11_isBooked_18 N k1 k2 k3 k4 I n v5 (v6 + 1)) else (Option.bind (if ((k1 >>> (v6 &&& 31)) &&& 1) = 1 then (ck v6 9 (some (I 327 v6.toNatClampNeg))) else (Option.bind (mX11_wayBits N 0 v6 I) (fun r6 => some r6)) : Option (Int32)) (fun x4 => Option.bind (if ((k2 >>> (v6 &&& 31)) &&& 1) = 1 then (ck v6 9 (some (x4 ||| (I 327 v6.toNatClampNeg)))) else (some x4) : Option (Int32)) (fun x9 => ck (1 + v6) 164 (nm (((x9 >>> (k4 &&& 31)) &&& 1) * (I 317 (1 + v6).toNatClampNeg)) (fun x13 => mX11_isBooked_18 N k1 k2 k3 k4 I n (v5 + x13) (v6 + 1)))))))
def mX11_isBooked_3 (N : Nat) (k1 : Int32) (k2 : Int32) (k3 : Int32) (I : gI) : Nat → Int32 → Option ((Unit) ⊕ (Int32))
  | 0, _ => none
  | n + 1, v4 => if (I 310 14) ≤ v4 then (some (.inl ())) else (Option.bind (mX11_isBooked_18 N k1 k2 k3 v4 I N 0 0) (fun y17 => ck ((5 * v4) + 3) 80 (if y17 ≤ (I 313 ((5 * v4) + 3).toNatClampNeg) then (mX11_isBooked_3 N k1 k2 k3 I n (v4 + 1)) else (some (.inr 0)))))
def mX11_isBooked (N : Nat) (a2 : Int32) (a3 : Int32) (a4 : Int32) (I : gI) : Option (Int32) := lbind (mX11_isBooked_3 N a2 a3 a4 I N 0) (fun _ => some 1) (fun r24 => some r24)
set_option maxHeartbeats 4000000 in
set_option maxRecDepth 100000 in
theorem wX11_isBooked_18 (N : Nat) (d : Nat) (hd : 1 ≤ d) {S : gS} {J : gJ} (hS : Sh S)  (k1 : Int32) (k2 : Int32) (k3 : Int32) (k4 : Int32) (I : gI) {Q : gO → gS → gI → gJ → Prop} :
    ∀ (n : Nat) (v5 : Int32) (v6 : Int32) (res : Int32), mX11_isBooked_18 N k1 k2 k3 k4 I n v5 v6 = some res → (∀ (o5 : Int32), res = o5 → Wp RX11 cX11_isBooked 8 (some .boolean) [] hF d 0 0 119 [(0, .ref 310), (1, .int k1), (2, .int k2), (3, .int k3), (4, .int k4), (5, .int o5)] [] S I J Q) → Wp RX11 cX11_isBooked 8 (some .boolean) [] hF d 0 0 18 [(0, .ref 310), (1, .int k1), (2, .int k2), (3, .int k3), (4, .int k4), (5, .int v5), (6, .int v6)] [] S I J Q := by
  intro n
  induction n with
  | zero => intro v5 v6 res h; exact nso h
  | succ n ih =>
    intro v5 v6 res h kx
    rw [mX11_isBooked_18] at h
    refine wp_iload dX11_isBooked_18 rfl ?_
    refine wp_aload_n dX11_isBooked_20 rfl rfl ?_
    refine wp_getI dX11_isBooked_21 flX11_202 rfl (sk310 hS) (sn310 hS) ?_
    refine wp_icmp_ge (tgt := 119) dX11_isBooked_24 (by decide) (fun hc2 => ?_) (fun hc2 => ?_)
    · have h := ite_t hc2 h
      exact wp_pick (ks := [0, 1, 2, 3, 4, 5]) rfl (kx _ (sji h).symm)
    · have h := ite_f hc2 h
      refine wp_iload_n dX11_isBooked_27 rfl rfl ?_
      refine wp_iload dX11_isBooked_28 rfl ?_
      refine wp_ishr dX11_isBooked_30 ?_
      refine wp_iconst (v := 1) dX11_isBooked_31 (by decide) ?_
      refine wp_iand dX11_isBooked_32 ?_
      refine wp_iconst (v := 1) dX11_isBooked_33 (by decide) ?_
      refine wp_icmp_ne (tgt := 40) dX11_isBooked_34 (by decide) (fun hc3 => ?_) (fun hc3 => ?_)
      · have h := ite_f hc3 h
        refine wp_iload_n dX11_isBooked_40 rfl rfl ?_
        refine wp_iload dX11_isBooked_41 rfl ?_
        refine wp_ishr dX11_isBooked_43 ?_
        refine wp_iconst (v := 1) dX11_isBooked_44 (by decide) ?_
        refine wp_iand dX11_isBooked_45 ?_
        refine wp_iconst (v := 1) dX11_isBooked_46 (by decide) ?_
        obtain ⟨x4, hh16, h⟩ := obi h
        have hJ : Wp RX11 cX11_isBooked 8 (some .boolean) [] hF d 0 0 67 [(0, .ref 310), (1, .int k1), (2, .int k2), (3, .int k3), (4, .int k4), (5, .int v5), (6, .int v6)] [.int x4] S I J Q := by
          refine wp_istore (ls' := [(7, .int x4), (0, .ref 310), (1, .int k1), (2, .int k2), (3, .int k3), (4, .int k4), (5, .int v5), (6, .int v6)]) dX11_isBooked_67 (Nat.le_of_ble_eq_true rfl) rfl ?_
          refine wp_iload_n dX11_isBooked_69 rfl rfl ?_
          refine wp_iload dX11_isBooked_70 rfl ?_
          refine wp_ishr dX11_isBooked_72 ?_
          refine wp_iconst (v := 1) dX11_isBooked_73 (by decide) ?_
          refine wp_iand dX11_isBooked_74 ?_
          refine wp_iconst (v := 1) dX11_isBooked_75 (by decide) ?_
          obtain ⟨x9, hh15, h⟩ := obi h
          have hJ : Wp RX11 cX11_isBooked 8 (some .boolean) [] hF d 0 0 91 [(0, .ref 310), (1, .int k1), (2, .int k2), (3, .int k3), (4, .int k4), (5, .int v5), (6, .int v6), (7, .int x9)] [] S I J Q := by
            refine wp_iload dX11_isBooked_91 rfl ?_
            refine wp_iload dX11_isBooked_93 rfl ?_
            refine wp_iload dX11_isBooked_95 rfl ?_
            refine wp_ishr dX11_isBooked_97 ?_
            refine wp_iconst (v := 1) dX11_isBooked_98 (by decide) ?_
            refine wp_iand dX11_isBooked_99 ?_
            refine wp_aload_n dX11_isBooked_100 rfl rfl ?_
            refine wp_getR dX11_isBooked_101 flX11_35 rfl (sk310 hS) (sn310 hS) (sr310_23 hS) ?_
            refine wp_iconst (v := 1) dX11_isBooked_104 (by decide) ?_
            refine wp_iload dX11_isBooked_105 rfl ?_
            refine wp_iadd dX11_isBooked_107 ?_
            obtain ⟨hb12, h⟩ := ck_inv h
            refine wp_iald dX11_isBooked_108 (sk317 hS) (sn317 hS) hb12 ?_
            refine wp_imul dX11_isBooked_109 ?_
            obtain ⟨x13, hx14, h⟩ := nm_inv h
            refine wp_topi hx14 ?_
            refine wp_iadd dX11_isBooked_110 ?_
            refine wp_istore (ls' := [(5, .int (v5 + x13)), (0, .ref 310), (1, .int k1), (2, .int k2), (3, .int k3), (4, .int k4), (6, .int v6), (7, .int x9)]) dX11_isBooked_111 (Nat.le_of_ble_eq_true rfl) rfl ?_
            refine wp_iinc (v := 1) (ls' := [(6, .int (v6 + 1)), (5, .int (v5 + x13)), (0, .ref 310), (1, .int k1), (2, .int k2), (3, .int k3), (4, .int k4), (7, .int x9)]) dX11_isBooked_113 rfl (by decide) (Nat.le_of_ble_eq_true rfl) rfl ?_
            refine wp_goto (tgt := 18) dX11_isBooked_116 (by decide) ?_
            exact wp_pick (ks := [2, 3, 4, 5, 6, 1, 0]) rfl (ih _ _ _ h kx)
          clear h
          have h := hh15
          clear hh15
          refine wp_icmp_ne (tgt := 91) dX11_isBooked_76 (by decide) (fun hc10 => ?_) (fun hc10 => ?_)
          · have h := ite_f hc10 h
            cases h
            exact wp_pick (ks := [1, 2, 3, 4, 5, 6, 7, 0]) rfl hJ
          · have h := ite_t hc10 h
            refine wp_iload dX11_isBooked_79 rfl ?_
            refine wp_aload_n dX11_isBooked_81 rfl rfl ?_
            refine wp_getR dX11_isBooked_82 flX11_66 rfl (sk310 hS) (sn310 hS) (sr310_39 hS) ?_
            refine wp_iload dX11_isBooked_85 rfl ?_
            obtain ⟨hb11, h⟩ := ck_inv h
            refine wp_iald dX11_isBooked_87 (sk327 hS) (sn327 hS) hb11 ?_
            refine wp_ior dX11_isBooked_88 ?_
            refine wp_istore (ls' := [(7, .int (x4 ||| (I 327 v6.toNatClampNeg))), (0, .ref 310), (1, .int k1), (2, .int k2), (3, .int k3), (4, .int k4), (5, .int v5), (6, .int v6)]) dX11_isBooked_89 (Nat.le_of_ble_eq_true rfl) rfl ?_
            cases h
            exact wp_pick (ks := [1, 2, 3, 4, 5, 6, 7, 0]) rfl hJ
        clear h
        have h := hh16
        clear hh16
        refine wp_icmp_ne (tgt := 60) dX11_isBooked_47 (by decide) (fun hc5 => ?_) (fun hc5 => ?_)
        · have h := ite_f hc5 h
          refine wp_aload_n dX11_isBooked_60 rfl rfl ?_
          refine wp_iconst (v := 0) dX11_isBooked_61 (by decide) ?_
          refine wp_iload dX11_isBooked_62 rfl ?_
          obtain ⟨r6, hF7, h⟩ := obi h
          refine wp_callVi (ci := 11) (As := [.int 0, .int v6]) dX11_isBooked_64 lbX11_wayBits mlX11_226 imX11_wayBits seX11_wayBits vc11 (ct_X11_wayBits N 0 (Nat.le_refl _) hS  hF7) rfl rfl (Nat.le_trans (by decide) hd) (sk310 hS) (sn310 hS) (Nat.le_of_ble_eq_true rfl) (fun _ => ?_)
          cases h
          exact wp_pick (ks := [0, 1, 2, 3, 4, 5, 6]) rfl hJ
        · have h := ite_t hc5 h
          refine wp_aload_n dX11_isBooked_50 rfl rfl ?_
          refine wp_getR dX11_isBooked_51 flX11_66 rfl (sk310 hS) (sn310 hS) (sr310_39 hS) ?_
          refine wp_iload dX11_isBooked_54 rfl ?_
          obtain ⟨hb8, h⟩ := ck_inv h
          refine wp_iald dX11_isBooked_56 (sk327 hS) (sn327 hS) hb8 ?_
          refine wp_goto (tgt := 67) dX11_isBooked_57 (by decide) ?_
          cases h
          exact wp_pick (ks := [0, 1, 2, 3, 4, 5, 6]) rfl hJ
      · have h := ite_t hc3 h
        refine wp_goto (tgt := 113) dX11_isBooked_37 (by decide) ?_
        refine wp_iinc (v := 1) (ls' := [(6, .int (v6 + 1)), (0, .ref 310), (1, .int k1), (2, .int k2), (3, .int k3), (4, .int k4), (5, .int v5)]) dX11_isBooked_113 rfl (by decide) (Nat.le_of_ble_eq_true rfl) rfl ?_
        refine wp_goto (tgt := 18) dX11_isBooked_116 (by decide) ?_
        exact wp_pick (ks := [1, 2, 3, 4, 5, 6, 0]) rfl (ih _ _ _ h kx)
set_option maxHeartbeats 4000000 in
set_option maxRecDepth 100000 in
theorem wX11_isBooked_3 (N : Nat) (d : Nat) (hd : 1 ≤ d) {S : gS} {J : gJ} (hS : Sh S)  (k1 : Int32) (k2 : Int32) (k3 : Int32) (I : gI) {Q : gO → gS → gI → gJ → Prop} :
    ∀ (n : Nat) (v4 : Int32) (res : (Unit) ⊕ (Int32)), mX11_isBooked_3 N k1 k2 k3 I n v4 = some res → (res = Sum.inl () → Wp RX11 cX11_isBooked 8 (some .boolean) [] hF d 0 0 143 [] [] S I J Q) → (∀ (r : Int32), res = Sum.inr r → Q (.inl (some (.int r))) S I J) → Wp RX11 cX11_isBooked 8 (some .boolean) [] hF d 0 0 3 [(0, .ref 310), (1, .int k1), (2, .int k2), (3, .int k3), (4, .int v4)] [] S I J Q := by
  intro n
  induction n with
  | zero => intro v4 res h; exact nso h
  | succ n ih =>
    intro v4 res h kx kr
    rw [mX11_isBooked_3] at h
    refine wp_iload dX11_isBooked_3 rfl ?_
    refine wp_aload_n dX11_isBooked_5 rfl rfl ?_
    refine wp_getI dX11_isBooked_6 flX11_199 rfl (sk310 hS) (sn310 hS) ?_
    refine wp_icmp_ge (tgt := 143) dX11_isBooked_9 (by decide) (fun hc1 => ?_) (fun hc1 => ?_)
    · have h := ite_t hc1 h
      exact wp_pick (ks := []) rfl (kx (sji h).symm)
    · have h := ite_f hc1 h
      refine wp_iconst (v := 0) dX11_isBooked_12 (by decide) ?_
      refine wp_istore (ls' := [(5, .int 0), (0, .ref 310), (1, .int k1), (2, .int k2), (3, .int k3), (4, .int v4)]) dX11_isBooked_13 (Nat.le_of_ble_eq_true rfl) rfl ?_
      refine wp_iconst (v := 0) dX11_isBooked_15 (by decide) ?_
      refine wp_istore (ls' := [(6, .int 0), (5, .int 0), (0, .ref 310), (1, .int k1), (2, .int k2), (3, .int k3), (4, .int v4)]) dX11_isBooked_16 (Nat.le_of_ble_eq_true rfl) rfl ?_
      obtain ⟨y17, hL920, h⟩ := obi h
      refine wp_pick (ks := [2, 3, 4, 5, 6, 1, 0]) rfl (wX11_isBooked_18 N d hd hS  k1 k2 k3 v4 I N 0 0 _ hL920 (fun _ e21 => ?_))
      cases e21
      refine wp_iload dX11_isBooked_119 rfl ?_
      refine wp_aload_n dX11_isBooked_121 rfl rfl ?_
      refine wp_getR dX11_isBooked_122 flX11_23 rfl (sk310 hS) (sn310 hS) (sr310_19 hS) ?_
      refine wp_iconst (v := 5) dX11_isBooked_125 (by decide) ?_
      refine wp_iload dX11_isBooked_126 rfl ?_
      refine wp_imul dX11_isBooked_128 ?_
      refine wp_iconst (v := 3) dX11_isBooked_129 (by decide) ?_
      refine wp_iadd dX11_isBooked_130 ?_
      obtain ⟨hb18, h⟩ := ck_inv h
      refine wp_iald dX11_isBooked_131 (sk313 hS) (sn313 hS) hb18 ?_
      refine wp_icmp_le (tgt := 137) dX11_isBooked_132 (by decide) (fun hc19 => ?_) (fun hc19 => ?_)
      · have h := ite_t hc19 h
        refine wp_iinc (v := 1) (ls' := [(4, .int (v4 + 1)), (0, .ref 310), (1, .int k1), (2, .int k2), (3, .int k3), (5, .int y17)]) dX11_isBooked_137 rfl (by decide) (Nat.le_of_ble_eq_true rfl) rfl ?_
        refine wp_goto (tgt := 3) dX11_isBooked_140 (by decide) ?_
        exact wp_pick (ks := [1, 2, 3, 4, 0]) rfl (ih _ _ h kx kr)
      · have h := ite_f hc19 h
        refine wp_iconst (v := 0) dX11_isBooked_135 (by decide) ?_
        exact wp_zret dX11_isBooked_136 rfl (by decide) (kr _ (sji h).symm)
set_option maxHeartbeats 4000000 in
set_option maxRecDepth 100000 in
theorem ct_X11_isBooked (N : Nat) (d : Nat) (hd : 1 ≤ d) {S : gS} {J : gJ} (hS : Sh S)  {a2 : Int32} {a3 : Int32} {a4 : Int32} {I : gI} {r : Int32} (h : mX11_isBooked N a2 a3 a4 I = some r) : Ct yX11_isBooked (wsY yX11_isBooked cX11_isBooked 8 (some .boolean)) d 0 0 [.ref 310, .int a2, .int a3, .int a4] S I J (qE (.inl (some (.int r))) S I J) := by
  refine Ct.of hF (fun _ _ _ _ _ => trivial) (by decide +kernel) (Nat.le_of_ble_eq_true rfl) ⟨Or.inl (sn310 hS), trivial, trivial, trivial, trivial⟩ ?_
  show Wp RX11 cX11_isBooked 8 (some .boolean) [] hF d 0 0 0 [(0, .ref 310), (1, .int a2), (2, .int a3), (3, .int a4)] [] S I J _
  unfold mX11_isBooked at h
  refine wp_iconst (v := 0) dX11_isBooked_0 (by decide) ?_
  refine wp_istore (ls' := [(4, .int 0), (0, .ref 310), (1, .int a2), (2, .int a3), (3, .int a4)]) dX11_isBooked_1 (Nat.le_of_ble_eq_true rfl) rfl ?_
  rcases lbi h with ⟨⟨⟩, hL922, h⟩ | ⟨r24, hL922, h⟩
  · refine wp_pick (ks := [1, 2, 3, 4, 0]) rfl (wX11_isBooked_3 N d hd hS  a2 a3 a4 I N 0 _ hL922 (fun  e23 => ?_) (fun _ e9 => by cases e9))
    cases e23
    refine wp_iconst (v := 1) dX11_isBooked_143 (by decide) ?_
    exact wp_zret dX11_isBooked_144 rfl (by decide) (by obtain rfl := sji h; exact ⟨rfl, rfl, rfl, rfl⟩)
  · refine wp_pick (ks := [1, 2, 3, 4, 0]) rfl (wX11_isBooked_3 N d hd hS  a2 a3 a4 I N 0 _ hL922 (fun  e9 => by cases e9) (fun _ e23 => ?_))
    cases e23
    exact (by obtain rfl := sji h; exact ⟨rfl, rfl, rfl, rfl⟩)
def mX11_laysCan_36 (N : Nat) (k1 : Int32) (k2 : Int32) (k3 : Int32) : Nat → Int32 → gI → Option (gI)
  | 0, _, _ => none
  | n + 1, v4, I => if (I 310 15) ≤ v4 then (some I) else (ck k3 512 (if (I 328 k3.toNatClampNeg) = 0 then (if ((k1 >>> (v4 &&& 31)) &&& 1) = 0 then (mX11_laysCan_36 N k1 k2 k3 n (v4 + 1) I) else (if ((k3 >>> (v4 &&& 31)) &&& 1) = 1 then (mX11_laysCan_36 N k1 k2 k3 n (v4 + 1) I) else (ck (k3 ||| ((1 : Int32) <<< (v4 &&& 31))) 512 (nm (I 328 (k3 ||| ((1 : Int32) <<< (v4 &&& 31))).toNatClampNeg) (fun x12 => if x12 = 0 then (mX11_laysCan_36 N k1 k2 k3 n (v4 + 1) I) else (Option.bind (mX11_isBooked N k3 ((1 : Int32) <<< (v4 &&& 31)) k2 I) (fun r15 => mX11_laysCan_36 N k1 k2 k3 n (v4 + 1) (upd2 I 328 k3.toNatClampNeg (vp_nar .boolean r15))))))))) else (some I)))
def mX11_laysCan_2 (N : Nat) (k1 : Int32) (k2 : Int32) : Nat → Int32 → gI → Option (gI)
  | 0, _, _ => none
  | n + 1, v3, I => if v3 < 0 then (some I) else (Option.bind (if v3 = k1 then (some 1) else (some 0) : Option (Int32)) (fun x2 => ck v3 512 (if (v3 &&& (k1 ^^^ (-1))) = 0 then (Option.bind (mX11_laysCan_36 N k1 k2 v3 N 0 (upd2 I 328 v3.toNatClampNeg (vp_nar .boolean x2))) (fun I17 => mX11_laysCan_2 N k1 k2 n (v3 + (-1)) I17)) else (mX11_laysCan_2 N k1 k2 n (v3 + (-1)) (upd2 I 328 v3.toNatClampNeg (vp_nar .boolean x2))))))
def mX11_laysCan (N : Nat) (a2 : Int32) (a3 : Int32) (I : gI) : Option (gI) := Option.bind (mX11_laysCan_2 N a2 a3 N a2 I) (fun I21 => some I21)
set_option maxHeartbeats 4000000 in
set_option maxRecDepth 100000 in
theorem wX11_laysCan_36 (N : Nat) (d : Nat) (hd : 2 ≤ d) {S : gS} {J : gJ} (hS : Sh S)  (k1 : Int32) (k2 : Int32) (k3 : Int32) {Q : gO → gS → gI → gJ → Prop} :
    ∀ (n : Nat) (v4 : Int32) (I : gI) (res : gI), mX11_laysCan_36 N k1 k2 k3 n v4 I = some res → (∀ (O : gI), res = O → Wp RX11 cX11_laysCan 5 none [] hF d 0 0 112 [(0, .ref 310), (1, .int k1), (2, .int k2), (3, .int k3)] [] S O J Q) → Wp RX11 cX11_laysCan 5 none [] hF d 0 0 36 [(0, .ref 310), (1, .int k1), (2, .int k2), (3, .int k3), (4, .int v4)] [] S I J Q := by
  intro n
  induction n with
  | zero => intro v4 I res h; exact nso h
  | succ n ih =>
    intro v4 I res h kx
    rw [mX11_laysCan_36] at h
    refine wp_iload dX11_laysCan_36 rfl ?_
    refine wp_aload_n dX11_laysCan_38 rfl rfl ?_
    refine wp_getI dX11_laysCan_39 flX11_202 rfl (sk310 hS) (sn310 hS) ?_
    refine wp_icmp_ge (tgt := 112) dX11_laysCan_42 (by decide) (fun hc6 => ?_) (fun hc6 => ?_)
    · have h := ite_t hc6 h
      exact wp_pick (ks := [0, 1, 2, 3]) rfl (kx _ (sji h).symm)
    · have h := ite_f hc6 h
      refine wp_aload_n dX11_laysCan_45 rfl rfl ?_
      refine wp_getR dX11_laysCan_46 flX11_69 rfl (sk310 hS) (sn310 hS) (sr310_40 hS) ?_
      refine wp_iload_n dX11_laysCan_49 rfl rfl ?_
      obtain ⟨hb7, h⟩ := ck_inv h
      refine wp_zald dX11_laysCan_50 (sk328 hS) (sn328 hS) hb7 ?_
      refine wp_if_ne (tgt := 112) dX11_laysCan_51 (by decide) (fun hc8 => ?_) (fun hc8 => ?_)
      · have h := ite_f hc8 h
        exact wp_pick (ks := [0, 1, 2, 3]) rfl (kx _ (sji h).symm)
      · have h := ite_t hc8 h
        refine wp_iload_n dX11_laysCan_54 rfl rfl ?_
        refine wp_iload dX11_laysCan_55 rfl ?_
        refine wp_ishr dX11_laysCan_57 ?_
        refine wp_iconst (v := 1) dX11_laysCan_58 (by decide) ?_
        refine wp_iand dX11_laysCan_59 ?_
        refine wp_if_eq (tgt := 106) dX11_laysCan_60 (by decide) (fun hc9 => ?_) (fun hc9 => ?_)
        · have h := ite_t hc9 h
          refine wp_iinc (v := 1) (ls' := [(4, .int (v4 + 1)), (0, .ref 310), (1, .int k1), (2, .int k2), (3, .int k3)]) dX11_laysCan_106 rfl (by decide) (Nat.le_of_ble_eq_true rfl) rfl ?_
          refine wp_goto (tgt := 36) dX11_laysCan_109 (by decide) ?_
          exact wp_pick (ks := [1, 2, 3, 4, 0]) rfl (ih _ _ _ h kx)
        · have h := ite_f hc9 h
          refine wp_iload_n dX11_laysCan_63 rfl rfl ?_
          refine wp_iload dX11_laysCan_64 rfl ?_
          refine wp_ishr dX11_laysCan_66 ?_
          refine wp_iconst (v := 1) dX11_laysCan_67 (by decide) ?_
          refine wp_iand dX11_laysCan_68 ?_
          refine wp_iconst (v := 1) dX11_laysCan_69 (by decide) ?_
          refine wp_icmp_eq (tgt := 106) dX11_laysCan_70 (by decide) (fun hc10 => ?_) (fun hc10 => ?_)
          · have h := ite_t hc10 h
            refine wp_iinc (v := 1) (ls' := [(4, .int (v4 + 1)), (0, .ref 310), (1, .int k1), (2, .int k2), (3, .int k3)]) dX11_laysCan_106 rfl (by decide) (Nat.le_of_ble_eq_true rfl) rfl ?_
            refine wp_goto (tgt := 36) dX11_laysCan_109 (by decide) ?_
            exact wp_pick (ks := [1, 2, 3, 4, 0]) rfl (ih _ _ _ h kx)
          · have h := ite_f hc10 h
            refine wp_aload_n dX11_laysCan_73 rfl rfl ?_
            refine wp_getR dX11_laysCan_74 flX11_69 rfl (sk310 hS) (sn310 hS) (sr310_40 hS) ?_
            refine wp_iload_n dX11_laysCan_77 rfl rfl ?_
            refine wp_iconst (v := 1) dX11_laysCan_78 (by decide) ?_
            refine wp_iload dX11_laysCan_79 rfl ?_
            refine wp_ishl dX11_laysCan_81 ?_
            refine wp_ior dX11_laysCan_82 ?_
            obtain ⟨hb11, h⟩ := ck_inv h
            refine wp_zald dX11_laysCan_83 (sk328 hS) (sn328 hS) hb11 ?_
            obtain ⟨x12, hx13, h⟩ := nm_inv h
            refine wp_topi hx13 ?_
            refine wp_if_ne (tgt := 90) dX11_laysCan_84 (by decide) (fun hc14 => ?_) (fun hc14 => ?_)
            · have h := ite_f hc14 h
              refine wp_aload_n dX11_laysCan_90 rfl rfl ?_
              refine wp_getR dX11_laysCan_91 flX11_69 rfl (sk310 hS) (sn310 hS) (sr310_40 hS) ?_
              refine wp_iload_n dX11_laysCan_94 rfl rfl ?_
              refine wp_aload_n dX11_laysCan_95 rfl rfl ?_
              refine wp_iload_n dX11_laysCan_96 rfl rfl ?_
              refine wp_iconst (v := 1) dX11_laysCan_97 (by decide) ?_
              refine wp_iload dX11_laysCan_98 rfl ?_
              refine wp_ishl dX11_laysCan_100 ?_
              refine wp_iload_n dX11_laysCan_101 rfl rfl ?_
              obtain ⟨r15, hF16, h⟩ := obi h
              refine wp_callVi (ci := 11) (As := [.int k3, .int ((1 : Int32) <<< (v4 &&& 31)), .int k2]) dX11_laysCan_102 lbX11_isBooked mlX11_368 imX11_isBooked seX11_isBooked vc11 (ct_X11_isBooked N 1 (Nat.le_refl _) hS  hF16) rfl rfl (Nat.le_trans (by decide) hd) (sk310 hS) (sn310 hS) (Nat.le_of_ble_eq_true rfl) (fun _ => ?_)
              refine wp_zast dX11_laysCan_105 (sk328 hS) (sn328 hS) hb7 ?_
              refine wp_iinc (v := 1) (ls' := [(4, .int (v4 + 1)), (0, .ref 310), (1, .int k1), (2, .int k2), (3, .int k3)]) dX11_laysCan_106 rfl (by decide) (Nat.le_of_ble_eq_true rfl) rfl ?_
              refine wp_goto (tgt := 36) dX11_laysCan_109 (by decide) ?_
              exact wp_pick (ks := [1, 2, 3, 4, 0]) rfl (ih _ _ _ h kx)
            · have h := ite_t hc14 h
              refine wp_goto (tgt := 106) dX11_laysCan_87 (by decide) ?_
              refine wp_iinc (v := 1) (ls' := [(4, .int (v4 + 1)), (0, .ref 310), (1, .int k1), (2, .int k2), (3, .int k3)]) dX11_laysCan_106 rfl (by decide) (Nat.le_of_ble_eq_true rfl) rfl ?_
              refine wp_goto (tgt := 36) dX11_laysCan_109 (by decide) ?_
              exact wp_pick (ks := [1, 2, 3, 4, 0]) rfl (ih _ _ _ h kx)
set_option maxHeartbeats 4000000 in
set_option maxRecDepth 100000 in
theorem wX11_laysCan_2 (N : Nat) (d : Nat) (hd : 2 ≤ d) {S : gS} {J : gJ} (hS : Sh S)  (k1 : Int32) (k2 : Int32) {Q : gO → gS → gI → gJ → Prop} :
    ∀ (n : Nat) (v3 : Int32) (I : gI) (res : gI), mX11_laysCan_2 N k1 k2 n v3 I = some res → (∀ (O : gI), res = O → Wp RX11 cX11_laysCan 5 none [] hF d 0 0 118 [] [] S O J Q) → Wp RX11 cX11_laysCan 5 none [] hF d 0 0 2 [(0, .ref 310), (1, .int k1), (2, .int k2), (3, .int v3)] [] S I J Q := by
  intro n
  induction n with
  | zero => intro v3 I res h; exact nso h
  | succ n ih =>
    intro v3 I res h kx
    rw [mX11_laysCan_2] at h
    refine wp_iload_n dX11_laysCan_2 rfl rfl ?_
    refine wp_if_lt (tgt := 118) dX11_laysCan_3 (by decide) (fun hc1 => ?_) (fun hc1 => ?_)
    · have h := ite_t hc1 h
      exact wp_pick (ks := []) rfl (kx _ (sji h).symm)
    · have h := ite_f hc1 h
      refine wp_aload_n dX11_laysCan_6 rfl rfl ?_
      refine wp_getR dX11_laysCan_7 flX11_69 rfl (sk310 hS) (sn310 hS) (sr310_40 hS) ?_
      refine wp_iload_n dX11_laysCan_10 rfl rfl ?_
      refine wp_iload_n dX11_laysCan_11 rfl rfl ?_
      refine wp_iload_n dX11_laysCan_12 rfl rfl ?_
      obtain ⟨x2, hh20, h⟩ := obi h
      have hJ : Wp RX11 cX11_laysCan 5 none [] hF d 0 0 21 [(0, .ref 310), (1, .int k1), (2, .int k2), (3, .int v3)] [.int x2, .int v3, .ref 328] S I J Q := by
        obtain ⟨hb4, h⟩ := ck_inv h
        refine wp_zast dX11_laysCan_21 (sk328 hS) (sn328 hS) hb4 ?_
        refine wp_iload_n dX11_laysCan_22 rfl rfl ?_
        refine wp_iload_n dX11_laysCan_23 rfl rfl ?_
        refine wp_iconst (v := (-1)) dX11_laysCan_24 (by decide) ?_
        refine wp_ixor dX11_laysCan_25 ?_
        refine wp_iand dX11_laysCan_26 ?_
        refine wp_if_eq (tgt := 33) dX11_laysCan_27 (by decide) (fun hc5 => ?_) (fun hc5 => ?_)
        · have h := ite_t hc5 h
          refine wp_iconst (v := 0) dX11_laysCan_33 (by decide) ?_
          refine wp_istore (ls' := [(4, .int 0), (0, .ref 310), (1, .int k1), (2, .int k2), (3, .int v3)]) dX11_laysCan_34 (Nat.le_of_ble_eq_true rfl) rfl ?_
          obtain ⟨I17, hL918, h⟩ := obi h
          refine wp_pick (ks := [1, 2, 3, 4, 0]) rfl (wX11_laysCan_36 N d hd hS  k1 k2 v3 N 0 (upd2 I 328 v3.toNatClampNeg (vp_nar .boolean x2)) _ hL918 (fun _ e19 => ?_))
          cases e19
          refine wp_iinc (v := (-1)) (ls' := [(3, .int (v3 + (-1))), (0, .ref 310), (1, .int k1), (2, .int k2)]) dX11_laysCan_112 rfl (by decide) (Nat.le_of_ble_eq_true rfl) rfl ?_
          refine wp_goto (tgt := 2) dX11_laysCan_115 (by decide) ?_
          exact wp_pick (ks := [1, 2, 3, 0]) rfl (ih _ _ _ h kx)
        · have h := ite_f hc5 h
          refine wp_goto (tgt := 112) dX11_laysCan_30 (by decide) ?_
          refine wp_iinc (v := (-1)) (ls' := [(3, .int (v3 + (-1))), (0, .ref 310), (1, .int k1), (2, .int k2)]) dX11_laysCan_112 rfl (by decide) (Nat.le_of_ble_eq_true rfl) rfl ?_
          refine wp_goto (tgt := 2) dX11_laysCan_115 (by decide) ?_
          exact wp_pick (ks := [1, 2, 3, 0]) rfl (ih _ _ _ h kx)
      clear h
      have h := hh20
      clear hh20
      refine wp_icmp_ne (tgt := 20) dX11_laysCan_13 (by decide) (fun hc3 => ?_) (fun hc3 => ?_)
      · have h := ite_f hc3 h
        refine wp_iconst (v := 0) dX11_laysCan_20 (by decide) ?_
        cases h
        exact wp_pick (ks := [0, 1, 2, 3]) rfl hJ
      · have h := ite_t hc3 h
        refine wp_iconst (v := 1) dX11_laysCan_16 (by decide) ?_
        refine wp_goto (tgt := 21) dX11_laysCan_17 (by decide) ?_
        cases h
        exact wp_pick (ks := [0, 1, 2, 3]) rfl hJ
set_option maxHeartbeats 4000000 in
set_option maxRecDepth 100000 in
theorem ct_X11_laysCan (N : Nat) (d : Nat) (hd : 2 ≤ d) {S : gS} {J : gJ} (hS : Sh S)  {a2 : Int32} {a3 : Int32} {I : gI} {r : gI} (h : mX11_laysCan N a2 a3 I = some r) : Ct yX11_laysCan (wsY yX11_laysCan cX11_laysCan 5 none) d 0 0 [.ref 310, .int a2, .int a3] S I J (qE (.inl none) S r J) := by
  refine Ct.of hF (fun _ _ _ _ _ => trivial) (by decide +kernel) (Nat.le_of_ble_eq_true rfl) ⟨Or.inl (sn310 hS), trivial, trivial, trivial⟩ ?_
  show Wp RX11 cX11_laysCan 5 none [] hF d 0 0 0 [(0, .ref 310), (1, .int a2), (2, .int a3)] [] S I J _
  unfold mX11_laysCan at h
  refine wp_iload_n dX11_laysCan_0 rfl rfl ?_
  refine wp_istore_n (ls' := [(3, .int a2), (0, .ref 310), (1, .int a2), (2, .int a3)]) dX11_laysCan_1 rfl (Nat.le_of_ble_eq_true rfl) rfl ?_
  obtain ⟨I21, hL922, h⟩ := obi h
  refine wp_pick (ks := [1, 2, 3, 0]) rfl (wX11_laysCan_2 N d hd hS  a2 a3 N a2 I _ hL922 (fun _ e23 => ?_))
  cases e23
  exact wp_vret dX11_laysCan_118 rfl (by obtain rfl := sji h; exact ⟨rfl, rfl, rfl, rfl⟩)
def mX11_order_63 (N : Nat) (k1 : Int32) (k2 : Int32) (k3 : Int32) (k4 : Int32) (I : gI) : Nat → Int32 → Option (Int32)
  | 0, _ => none
  | n + 1, v5 => if ((k2 >>> (v5 &&& 31)) &&& 1) = 0 then (mX11_order_63 N k1 k2 k3 k4 I n (v5 + 1)) else (if ((k3 >>> (v5 &&& 31)) &&& 1) = 1 then (mX11_order_63 N k1 k2 k3 k4 I n (v5 + 1)) else (ck (k3 ||| ((1 : Int32) <<< (v5 &&& 31))) 512 (nm (I 328 (k3 ||| ((1 : Int32) <<< (v5 &&& 31))).toNatClampNeg) (fun x18 => if x18 = 0 then (mX11_order_63 N k1 k2 k3 k4 I n (v5 + 1)) else (Option.bind (mX11_isBooked N k3 ((1 : Int32) <<< (v5 &&& 31)) 0 I) (fun r21 => if r21 = 0 then (mX11_order_63 N k1 k2 k3 k4 I n (v5 + 1)) else (some v5)))))))
def mX11_order_55 (N : Nat) (k1 : Int32) (k2 : Int32) (I : gI) : Nat → Int32 → Int32 → Option ((Unit) ⊕ (Int32 × gI))
  | 0, _, _ => none
  | n + 1, v3, v4 => if v3 = k2 then (some (.inl ())) else (Option.bind (mX11_order_63 N k1 k2 v3 v4 I N 0) (fun y24 => if v4 = k1 then (some (.inr (y24, I))) else (mX11_order_55 N k1 k2 I n (v3 ||| ((1 : Int32) <<< (y24 &&& 31))) (v4 + 1))))
def mX11_order (N : Nat) (a2 : Int32) (I : gI) : Option (Int32 × gI) := Option.bind (if a2 < 0 then (some 0) else (some 1) : Option (Int32)) (fun x1 => Option.bind (mX11_right x1 1 (upd2 I 310 0 0)) (fun (r3, I4) => if r3 = 0 then (some (0, I4)) else (Option.bind (mX11_laysPlan N I4) (fun I7 => Option.bind (mX11_toMove N I7) (fun r9 => Option.bind (mX11_laysCan N r9 0 I7) (fun I11 => if (I11 328 (0 : Int32).toNatClampNeg) = 0 then (some ((-1), I11)) else (lbind (mX11_order_55 N a2 r9 I11 N 0 0) (fun _ => some ((-1), I11)) (fun (r30, I31) => some (r30, I31)))))))))
set_option maxHeartbeats 4000000 in
set_option maxRecDepth 100000 in
theorem wX11_order_63 (N : Nat) (d : Nat) (hd : 4 ≤ d) {S : gS} {J : gJ} (hS : Sh S)  (k1 : Int32) (k2 : Int32) (k3 : Int32) (k4 : Int32) (I : gI) {Q : gO → gS → gI → gJ → Prop} :
    ∀ (n : Nat) (v5 : Int32) (res : Int32), mX11_order_63 N k1 k2 k3 k4 I n v5 = some res → (∀ (o5 : Int32), res = o5 → Wp RX11 cX11_order 6 (some .int) [] hF d 0 0 115 [(0, .ref 310), (1, .int k1), (2, .int k2), (3, .int k3), (4, .int k4), (5, .int o5)] [] S I J Q) → Wp RX11 cX11_order 6 (some .int) [] hF d 0 0 63 [(0, .ref 310), (1, .int k1), (2, .int k2), (3, .int k3), (4, .int k4), (5, .int v5)] [] S I J Q := by
  intro n
  induction n with
  | zero => intro v5 res h; exact nso h
  | succ n ih =>
    intro v5 res h kx
    rw [mX11_order_63] at h
    refine wp_iload_n dX11_order_63 rfl rfl ?_
    refine wp_iload dX11_order_64 rfl ?_
    refine wp_ishr dX11_order_66 ?_
    refine wp_iconst (v := 1) dX11_order_67 (by decide) ?_
    refine wp_iand dX11_order_68 ?_
    refine wp_if_eq (tgt := 109) dX11_order_69 (by decide) (fun hc15 => ?_) (fun hc15 => ?_)
    · have h := ite_t hc15 h
      refine wp_iinc (v := 1) (ls' := [(5, .int (v5 + 1)), (0, .ref 310), (1, .int k1), (2, .int k2), (3, .int k3), (4, .int k4)]) dX11_order_109 rfl (by decide) (Nat.le_of_ble_eq_true rfl) rfl ?_
      refine wp_goto (tgt := 63) dX11_order_112 (by decide) ?_
      exact wp_pick (ks := [1, 2, 3, 4, 5, 0]) rfl (ih _ _ h kx)
    · have h := ite_f hc15 h
      refine wp_iload_n dX11_order_72 rfl rfl ?_
      refine wp_iload dX11_order_73 rfl ?_
      refine wp_ishr dX11_order_75 ?_
      refine wp_iconst (v := 1) dX11_order_76 (by decide) ?_
      refine wp_iand dX11_order_77 ?_
      refine wp_iconst (v := 1) dX11_order_78 (by decide) ?_
      refine wp_icmp_eq (tgt := 109) dX11_order_79 (by decide) (fun hc16 => ?_) (fun hc16 => ?_)
      · have h := ite_t hc16 h
        refine wp_iinc (v := 1) (ls' := [(5, .int (v5 + 1)), (0, .ref 310), (1, .int k1), (2, .int k2), (3, .int k3), (4, .int k4)]) dX11_order_109 rfl (by decide) (Nat.le_of_ble_eq_true rfl) rfl ?_
        refine wp_goto (tgt := 63) dX11_order_112 (by decide) ?_
        exact wp_pick (ks := [1, 2, 3, 4, 5, 0]) rfl (ih _ _ h kx)
      · have h := ite_f hc16 h
        refine wp_aload_n dX11_order_82 rfl rfl ?_
        refine wp_getR dX11_order_83 flX11_69 rfl (sk310 hS) (sn310 hS) (sr310_40 hS) ?_
        refine wp_iload_n dX11_order_86 rfl rfl ?_
        refine wp_iconst (v := 1) dX11_order_87 (by decide) ?_
        refine wp_iload dX11_order_88 rfl ?_
        refine wp_ishl dX11_order_90 ?_
        refine wp_ior dX11_order_91 ?_
        obtain ⟨hb17, h⟩ := ck_inv h
        refine wp_zald dX11_order_92 (sk328 hS) (sn328 hS) hb17 ?_
        obtain ⟨x18, hx19, h⟩ := nm_inv h
        refine wp_topi hx19 ?_
        refine wp_if_eq (tgt := 109) dX11_order_93 (by decide) (fun hc20 => ?_) (fun hc20 => ?_)
        · have h := ite_t hc20 h
          refine wp_iinc (v := 1) (ls' := [(5, .int (v5 + 1)), (0, .ref 310), (1, .int k1), (2, .int k2), (3, .int k3), (4, .int k4)]) dX11_order_109 rfl (by decide) (Nat.le_of_ble_eq_true rfl) rfl ?_
          refine wp_goto (tgt := 63) dX11_order_112 (by decide) ?_
          exact wp_pick (ks := [1, 2, 3, 4, 5, 0]) rfl (ih _ _ h kx)
        · have h := ite_f hc20 h
          refine wp_aload_n dX11_order_96 rfl rfl ?_
          refine wp_iload_n dX11_order_97 rfl rfl ?_
          refine wp_iconst (v := 1) dX11_order_98 (by decide) ?_
          refine wp_iload dX11_order_99 rfl ?_
          refine wp_ishl dX11_order_101 ?_
          refine wp_iconst (v := 0) dX11_order_102 (by decide) ?_
          obtain ⟨r21, hF22, h⟩ := obi h
          refine wp_callVi (ci := 11) (As := [.int k3, .int ((1 : Int32) <<< (v5 &&& 31)), .int 0]) dX11_order_103 lbX11_isBooked mlX11_368 imX11_isBooked seX11_isBooked vc11 (ct_X11_isBooked N 1 (Nat.le_refl _) hS  hF22) rfl rfl (Nat.le_trans (by decide) hd) (sk310 hS) (sn310 hS) (Nat.le_of_ble_eq_true rfl) (fun _ => ?_)
          refine wp_if_ne (tgt := 115) dX11_order_106 (by decide) (fun hc23 => ?_) (fun hc23 => ?_)
          · have h := ite_f hc23 h
            exact wp_pick (ks := [0, 1, 2, 3, 4, 5]) rfl (kx _ (sji h).symm)
          · have h := ite_t hc23 h
            refine wp_iinc (v := 1) (ls' := [(5, .int (v5 + 1)), (0, .ref 310), (1, .int k1), (2, .int k2), (3, .int k3), (4, .int k4)]) dX11_order_109 rfl (by decide) (Nat.le_of_ble_eq_true rfl) rfl ?_
            refine wp_goto (tgt := 63) dX11_order_112 (by decide) ?_
            exact wp_pick (ks := [1, 2, 3, 4, 5, 0]) rfl (ih _ _ h kx)
set_option maxHeartbeats 4000000 in
set_option maxRecDepth 100000 in
theorem wX11_order_55 (N : Nat) (d : Nat) (hd : 4 ≤ d) {S : gS} {J : gJ} (hS : Sh S)  (k1 : Int32) (k2 : Int32) (I : gI) {Q : gO → gS → gI → gJ → Prop} :
    ∀ (n : Nat) (v3 : Int32) (v4 : Int32) (res : (Unit) ⊕ (Int32 × gI)), mX11_order_55 N k1 k2 I n v3 v4 = some res → (res = Sum.inl () → Wp RX11 cX11_order 6 (some .int) [] hF d 0 0 137 [] [] S I J Q) → (∀ (r : Int32) (O : gI), res = Sum.inr (r, O) → Q (.inl (some (.int r))) S O J) → Wp RX11 cX11_order 6 (some .int) [] hF d 0 0 55 [(0, .ref 310), (1, .int k1), (2, .int k2), (3, .int v3), (4, .int v4)] [] S I J Q := by
  intro n
  induction n with
  | zero => intro v3 v4 res h; exact nso h
  | succ n ih =>
    intro v3 v4 res h kx kr
    rw [mX11_order_55] at h
    refine wp_iload_n dX11_order_55 rfl rfl ?_
    refine wp_iload_n dX11_order_56 rfl rfl ?_
    refine wp_icmp_eq (tgt := 137) dX11_order_57 (by decide) (fun hc14 => ?_) (fun hc14 => ?_)
    · have h := ite_t hc14 h
      exact wp_pick (ks := []) rfl (kx (sji h).symm)
    · have h := ite_f hc14 h
      refine wp_iconst (v := 0) dX11_order_60 (by decide) ?_
      refine wp_istore (ls' := [(5, .int 0), (0, .ref 310), (1, .int k1), (2, .int k2), (3, .int v3), (4, .int v4)]) dX11_order_61 (Nat.le_of_ble_eq_true rfl) rfl ?_
      obtain ⟨y24, hL926, h⟩ := obi h
      refine wp_pick (ks := [1, 2, 3, 4, 5, 0]) rfl (wX11_order_63 N d hd hS  k1 k2 v3 v4 I N 0 _ hL926 (fun _ e27 => ?_))
      cases e27
      refine wp_iload dX11_order_115 rfl ?_
      refine wp_iload_n dX11_order_117 rfl rfl ?_
      refine wp_icmp_ne (tgt := 124) dX11_order_118 (by decide) (fun hc25 => ?_) (fun hc25 => ?_)
      · have h := ite_f hc25 h
        refine wp_iload_n dX11_order_124 rfl rfl ?_
        refine wp_iconst (v := 1) dX11_order_125 (by decide) ?_
        refine wp_iload dX11_order_126 rfl ?_
        refine wp_ishl dX11_order_128 ?_
        refine wp_ior dX11_order_129 ?_
        refine wp_istore_n (ls' := [(3, .int (v3 ||| ((1 : Int32) <<< (y24 &&& 31)))), (0, .ref 310), (1, .int k1), (2, .int k2), (4, .int v4), (5, .int y24)]) dX11_order_130 rfl (Nat.le_of_ble_eq_true rfl) rfl ?_
        refine wp_iinc (v := 1) (ls' := [(4, .int (v4 + 1)), (3, .int (v3 ||| ((1 : Int32) <<< (y24 &&& 31)))), (0, .ref 310), (1, .int k1), (2, .int k2), (5, .int y24)]) dX11_order_131 rfl (by decide) (Nat.le_of_ble_eq_true rfl) rfl ?_
        refine wp_goto (tgt := 55) dX11_order_134 (by decide) ?_
        exact wp_pick (ks := [2, 3, 4, 1, 0]) rfl (ih _ _ _ h kx kr)
      · have h := ite_t hc25 h
        refine wp_iload dX11_order_121 rfl ?_
        exact wp_iret dX11_order_123 rfl (kr _ _ (sji h).symm)
set_option maxHeartbeats 4000000 in
set_option maxRecDepth 100000 in
theorem ct_X11_order (N : Nat) (d : Nat) (hd : 4 ≤ d) {S : gS} {J : gJ} (hS : Sh S)  {a2 : Int32} {I : gI} {r : Int32 × gI} (h : mX11_order N a2 I = some r) : Ct yX11_order (wsY yX11_order cX11_order 6 (some .int)) d 0 0 [.ref 310, .int a2] S I J (qE (.inl (some (.int r.1))) S r.2 J) := by
  refine Ct.of hF (fun _ _ _ _ _ => trivial) (by decide +kernel) (Nat.le_of_ble_eq_true rfl) ⟨Or.inl (sn310 hS), trivial, trivial⟩ ?_
  show Wp RX11 cX11_order 6 (some .int) [] hF d 0 0 0 [(0, .ref 310), (1, .int a2)] [] S I J _
  unfold mX11_order at h
  refine wp_aload_n dX11_order_0 rfl rfl ?_
  refine wp_iconst (v := 0) dX11_order_1 (by decide) ?_
  refine wp_putI dX11_order_2 (Or.inl fpX11_96) rfl ⟨rfl, rfl⟩ (sk310 hS) (sn310 hS) ?_
  refine wp_aload_n dX11_order_5 rfl rfl ?_
  refine wp_iload_n dX11_order_6 rfl rfl ?_
  obtain ⟨x1, hh32, h⟩ := obi h
  have hJ : Wp RX11 cX11_order 6 (some .int) [] hF d 0 0 15 [(0, .ref 310), (1, .int a2)] [.int x1, .ref 310] S (upd2 I 310 0 0) J (qE (.inl (some (.int r.1))) S r.2 J) := by
    refine wp_iconst (v := 1) dX11_order_15 (by decide) ?_
    obtain ⟨⟨r3, I4⟩, hF5, h⟩ := obi h
    refine wp_callVi (ci := 11) (As := [.int x1, .int 1]) dX11_order_16 lbX11_right mlX11_192 imX11_right seX11_right vc11 (ct_X11_right 0 (Nat.le_refl _) hS  hF5) rfl rfl (Nat.le_trans (by decide) hd) (sk310 hS) (sn310 hS) (Nat.le_of_ble_eq_true rfl) (fun _ => ?_)
    refine wp_if_ne (tgt := 24) dX11_order_19 (by decide) (fun hc6 => ?_) (fun hc6 => ?_)
    · have h := ite_f hc6 h
      refine wp_aload_n dX11_order_24 rfl rfl ?_
      obtain ⟨I7, hF8, h⟩ := obi h
      refine wp_callVv (ci := 11) (As := []) dX11_order_25 lbX11_laysPlan mlX11_365 imX11_laysPlan seX11_laysPlan vc11 (ct_X11_laysPlan N 3 (Nat.le_refl _) hS  hF8) rfl rfl (Nat.le_trans (by decide) hd) (sk310 hS) (sn310 hS) (Nat.le_of_ble_eq_true rfl) (fun _ => ?_)
      refine wp_aload_n dX11_order_28 rfl rfl ?_
      obtain ⟨r9, hF10, h⟩ := obi h
      refine wp_callVi (ci := 11) (As := []) dX11_order_29 lbX11_toMove mlX11_371 imX11_toMove seX11_toMove vc11 (ct_X11_toMove N 1 (Nat.le_refl _) hS  hF10) rfl rfl (Nat.le_trans (by decide) hd) (sk310 hS) (sn310 hS) (Nat.le_of_ble_eq_true rfl) (fun _ => ?_)
      refine wp_istore_n (ls' := [(2, .int r9), (0, .ref 310), (1, .int a2)]) dX11_order_32 rfl (Nat.le_of_ble_eq_true rfl) rfl ?_
      refine wp_aload_n dX11_order_33 rfl rfl ?_
      refine wp_iload_n dX11_order_34 rfl rfl ?_
      refine wp_iconst (v := 0) dX11_order_35 (by decide) ?_
      obtain ⟨I11, hF12, h⟩ := obi h
      refine wp_callVv (ci := 11) (As := [.int r9, .int 0]) dX11_order_36 lbX11_laysCan mlX11_374 imX11_laysCan seX11_laysCan vc11 (ct_X11_laysCan N 2 (Nat.le_refl _) hS  hF12) rfl rfl (Nat.le_trans (by decide) hd) (sk310 hS) (sn310 hS) (Nat.le_of_ble_eq_true rfl) (fun _ => ?_)
      refine wp_aload_n dX11_order_39 rfl rfl ?_
      refine wp_getR dX11_order_40 flX11_69 rfl (sk310 hS) (sn310 hS) (sr310_40 hS) ?_
      refine wp_iconst (v := 0) dX11_order_43 (by decide) ?_
      refine wp_zald dX11_order_44 (sk328 hS) (sn328 hS) (inb_in (by decide)) ?_
      refine wp_if_ne (tgt := 50) dX11_order_45 (by decide) (fun hc13 => ?_) (fun hc13 => ?_)
      · have h := ite_f hc13 h
        refine wp_iconst (v := 0) dX11_order_50 (by decide) ?_
        refine wp_istore_n (ls' := [(3, .int 0), (2, .int r9), (0, .ref 310), (1, .int a2)]) dX11_order_51 rfl (Nat.le_of_ble_eq_true rfl) rfl ?_
        refine wp_iconst (v := 0) dX11_order_52 (by decide) ?_
        refine wp_istore (ls' := [(4, .int 0), (3, .int 0), (2, .int r9), (0, .ref 310), (1, .int a2)]) dX11_order_53 (Nat.le_of_ble_eq_true rfl) rfl ?_
        rcases lbi h with ⟨⟨⟩, hL928, h⟩ | ⟨⟨r30, I31⟩, hL928, h⟩
        · refine wp_pick (ks := [3, 4, 2, 1, 0]) rfl (wX11_order_55 N d hd hS  a2 r9 I11 N 0 0 _ hL928 (fun  e29 => ?_) (fun _ _ e9 => by cases e9))
          cases e29
          refine wp_iconst (v := (-1)) dX11_order_137 (by decide) ?_
          exact wp_iret dX11_order_138 rfl (by obtain rfl := sji h; exact ⟨rfl, rfl, rfl, rfl⟩)
        · refine wp_pick (ks := [3, 4, 2, 1, 0]) rfl (wX11_order_55 N d hd hS  a2 r9 I11 N 0 0 _ hL928 (fun  e9 => by cases e9) (fun _ _ e29 => ?_))
          cases e29
          exact (by obtain rfl := sji h; exact ⟨rfl, rfl, rfl, rfl⟩)
      · have h := ite_t hc13 h
        refine wp_iconst (v := (-1)) dX11_order_48 (by decide) ?_
        exact wp_iret dX11_order_49 rfl (by obtain rfl := sji h; exact ⟨rfl, rfl, rfl, rfl⟩)
    · have h := ite_t hc6 h
      refine wp_iconst (v := 0) dX11_order_22 (by decide) ?_
      exact wp_iret dX11_order_23 rfl (by obtain rfl := sji h; exact ⟨rfl, rfl, rfl, rfl⟩)
  clear h
  have h := hh32
  clear hh32
  refine wp_if_lt (tgt := 14) dX11_order_7 (by decide) (fun hc2 => ?_) (fun hc2 => ?_)
  · have h := ite_t hc2 h
    refine wp_iconst (v := 0) dX11_order_14 (by decide) ?_
    cases h
    exact wp_pick (ks := [0, 1]) rfl hJ
  · have h := ite_f hc2 h
    refine wp_iconst (v := 1) dX11_order_10 (by decide) ?_
    refine wp_goto (tgt := 15) dX11_order_11 (by decide) ?_
    cases h
    exact wp_pick (ks := [0, 1]) rfl hJ
def mX11_toBreak_30 (N : Nat) (k1 : Int32) : Nat → Int32 → Int32 → gI → Option (Int32 × gI)
  | 0, _, _, _ => none
  | n + 1, v2, v3, I => if k1 < v3 then (some (v2, I)) else (if (v3 &&& (k1 ^^^ (-1))) = 0 then (if v2 = (-1) then (Option.bind (mX11_laysCan N (k1 &&& (v3 ^^^ (-1))) v3 I) (fun I11 => if (I11 328 (0 : Int32).toNatClampNeg) = 0 then (mX11_toBreak_30 N k1 n v2 (v3 + 1) I11) else (mX11_toBreak_30 N k1 n v3 (v3 + 1) I11))) else (Option.bind (mX11_bits N v3 I) (fun r14 => Option.bind (mX11_bits N v2 I) (fun r16 => if r14 < r16 then (Option.bind (mX11_laysCan N (k1 &&& (v3 ^^^ (-1))) v3 I) (fun I19 => if (I19 328 (0 : Int32).toNatClampNeg) = 0 then (mX11_toBreak_30 N k1 n v2 (v3 + 1) I19) else (mX11_toBreak_30 N k1 n v3 (v3 + 1) I19))) else (mX11_toBreak_30 N k1 n v2 (v3 + 1) I))))) else (mX11_toBreak_30 N k1 n v2 (v3 + 1) I))
def mX11_toBreak (N : Nat) (I : gI) : Option (Int32 × gI) := Option.bind (mX11_laysPlan N (upd2 I 310 0 0)) (fun I1 => Option.bind (mX11_toMove N I1) (fun r3 => Option.bind (mX11_isBooked N r3 0 0 I1) (fun r5 => if r5 = 0 then (some ((-1), I1)) else (Option.bind (mX11_toBreak_30 N r3 N (-1) 0 I1) (fun (y22, I23) => some (y22, I23))))))
set_option maxHeartbeats 4000000 in
set_option maxRecDepth 100000 in
theorem wX11_toBreak_30 (N : Nat) (d : Nat) (hd : 4 ≤ d) {S : gS} {J : gJ} (hS : Sh S)  (k1 : Int32) {Q : gO → gS → gI → gJ → Prop} :
    ∀ (n : Nat) (v2 : Int32) (v3 : Int32) (I : gI) (res : Int32 × gI), mX11_toBreak_30 N k1 n v2 v3 I = some res → (∀ (o2 : Int32) (O : gI), res = (o2, O) → Wp RX11 cX11_toBreak 4 (some .int) [] hF d 0 0 89 [(2, .int o2)] [] S O J Q) → Wp RX11 cX11_toBreak 4 (some .int) [] hF d 0 0 30 [(0, .ref 310), (1, .int k1), (2, .int v2), (3, .int v3)] [] S I J Q := by
  intro n
  induction n with
  | zero => intro v2 v3 I res h; exact nso h
  | succ n ih =>
    intro v2 v3 I res h kx
    rw [mX11_toBreak_30] at h
    refine wp_iload_n dX11_toBreak_30 rfl rfl ?_
    refine wp_iload_n dX11_toBreak_31 rfl rfl ?_
    refine wp_icmp_gt (tgt := 89) dX11_toBreak_32 (by decide) (fun hc8 => ?_) (fun hc8 => ?_)
    · have h := ite_t hc8 h
      exact wp_pick (ks := [2]) rfl (kx _ _ (sji h).symm)
    · have h := ite_f hc8 h
      refine wp_iload_n dX11_toBreak_35 rfl rfl ?_
      refine wp_iload_n dX11_toBreak_36 rfl rfl ?_
      refine wp_iconst (v := (-1)) dX11_toBreak_37 (by decide) ?_
      refine wp_ixor dX11_toBreak_38 ?_
      refine wp_iand dX11_toBreak_39 ?_
      refine wp_if_ne (tgt := 83) dX11_toBreak_40 (by decide) (fun hc9 => ?_) (fun hc9 => ?_)
      · have h := ite_f hc9 h
        refine wp_iinc (v := 1) (ls' := [(3, .int (v3 + 1)), (0, .ref 310), (1, .int k1), (2, .int v2)]) dX11_toBreak_83 rfl (by decide) (Nat.le_of_ble_eq_true rfl) rfl ?_
        refine wp_goto (tgt := 30) dX11_toBreak_86 (by decide) ?_
        exact wp_pick (ks := [1, 2, 3, 0]) rfl (ih _ _ _ _ h kx)
      · have h := ite_t hc9 h
        refine wp_iload_n dX11_toBreak_43 rfl rfl ?_
        refine wp_iconst (v := (-1)) dX11_toBreak_44 (by decide) ?_
        refine wp_icmp_eq (tgt := 62) dX11_toBreak_45 (by decide) (fun hc10 => ?_) (fun hc10 => ?_)
        · have h := ite_t hc10 h
          refine wp_aload_n dX11_toBreak_62 rfl rfl ?_
          refine wp_iload_n dX11_toBreak_63 rfl rfl ?_
          refine wp_iload_n dX11_toBreak_64 rfl rfl ?_
          refine wp_iconst (v := (-1)) dX11_toBreak_65 (by decide) ?_
          refine wp_ixor dX11_toBreak_66 ?_
          refine wp_iand dX11_toBreak_67 ?_
          refine wp_iload_n dX11_toBreak_68 rfl rfl ?_
          obtain ⟨I11, hF12, h⟩ := obi h
          refine wp_callVv (ci := 11) (As := [.int (k1 &&& (v3 ^^^ (-1))), .int v3]) dX11_toBreak_69 lbX11_laysCan mlX11_374 imX11_laysCan seX11_laysCan vc11 (ct_X11_laysCan N 2 (Nat.le_refl _) hS  hF12) rfl rfl (Nat.le_trans (by decide) hd) (sk310 hS) (sn310 hS) (Nat.le_of_ble_eq_true rfl) (fun _ => ?_)
          refine wp_aload_n dX11_toBreak_72 rfl rfl ?_
          refine wp_getR dX11_toBreak_73 flX11_69 rfl (sk310 hS) (sn310 hS) (sr310_40 hS) ?_
          refine wp_iconst (v := 0) dX11_toBreak_76 (by decide) ?_
          refine wp_zald dX11_toBreak_77 (sk328 hS) (sn328 hS) (inb_in (by decide)) ?_
          refine wp_if_eq (tgt := 83) dX11_toBreak_78 (by decide) (fun hc13 => ?_) (fun hc13 => ?_)
          · have h := ite_t hc13 h
            refine wp_iinc (v := 1) (ls' := [(3, .int (v3 + 1)), (0, .ref 310), (1, .int k1), (2, .int v2)]) dX11_toBreak_83 rfl (by decide) (Nat.le_of_ble_eq_true rfl) rfl ?_
            refine wp_goto (tgt := 30) dX11_toBreak_86 (by decide) ?_
            exact wp_pick (ks := [1, 2, 3, 0]) rfl (ih _ _ _ _ h kx)
          · have h := ite_f hc13 h
            refine wp_iload_n dX11_toBreak_81 rfl rfl ?_
            refine wp_istore_n (ls' := [(2, .int v3), (0, .ref 310), (1, .int k1), (3, .int v3)]) dX11_toBreak_82 rfl (Nat.le_of_ble_eq_true rfl) rfl ?_
            refine wp_iinc (v := 1) (ls' := [(3, .int (v3 + 1)), (2, .int v3), (0, .ref 310), (1, .int k1)]) dX11_toBreak_83 rfl (by decide) (Nat.le_of_ble_eq_true rfl) rfl ?_
            refine wp_goto (tgt := 30) dX11_toBreak_86 (by decide) ?_
            exact wp_pick (ks := [2, 3, 1, 0]) rfl (ih _ _ _ _ h kx)
        · have h := ite_f hc10 h
          refine wp_iload_n dX11_toBreak_48 rfl rfl ?_
          obtain ⟨r14, hF15, h⟩ := obi h
          refine wp_callSi (As := [.int v3]) dX11_toBreak_49 lbX11_bits mlX11_275 smX11_bits (ct_X11_bits N 0 (Nat.le_refl _) hS  hF15) rfl rfl (Nat.le_trans (by decide) hd) (Nat.le_of_ble_eq_true rfl) (fun _ => ?_)
          refine wp_iload_n dX11_toBreak_52 rfl rfl ?_
          obtain ⟨r16, hF17, h⟩ := obi h
          refine wp_callSi (As := [.int v2]) dX11_toBreak_53 lbX11_bits mlX11_275 smX11_bits (ct_X11_bits N 0 (Nat.le_refl _) hS  hF17) rfl rfl (Nat.le_trans (by decide) hd) (Nat.le_of_ble_eq_true rfl) (fun _ => ?_)
          refine wp_icmp_lt (tgt := 62) dX11_toBreak_56 (by decide) (fun hc18 => ?_) (fun hc18 => ?_)
          · have h := ite_t hc18 h
            refine wp_aload_n dX11_toBreak_62 rfl rfl ?_
            refine wp_iload_n dX11_toBreak_63 rfl rfl ?_
            refine wp_iload_n dX11_toBreak_64 rfl rfl ?_
            refine wp_iconst (v := (-1)) dX11_toBreak_65 (by decide) ?_
            refine wp_ixor dX11_toBreak_66 ?_
            refine wp_iand dX11_toBreak_67 ?_
            refine wp_iload_n dX11_toBreak_68 rfl rfl ?_
            obtain ⟨I19, hF20, h⟩ := obi h
            refine wp_callVv (ci := 11) (As := [.int (k1 &&& (v3 ^^^ (-1))), .int v3]) dX11_toBreak_69 lbX11_laysCan mlX11_374 imX11_laysCan seX11_laysCan vc11 (ct_X11_laysCan N 2 (Nat.le_refl _) hS  hF20) rfl rfl (Nat.le_trans (by decide) hd) (sk310 hS) (sn310 hS) (Nat.le_of_ble_eq_true rfl) (fun _ => ?_)
            refine wp_aload_n dX11_toBreak_72 rfl rfl ?_
            refine wp_getR dX11_toBreak_73 flX11_69 rfl (sk310 hS) (sn310 hS) (sr310_40 hS) ?_
            refine wp_iconst (v := 0) dX11_toBreak_76 (by decide) ?_
            refine wp_zald dX11_toBreak_77 (sk328 hS) (sn328 hS) (inb_in (by decide)) ?_
            refine wp_if_eq (tgt := 83) dX11_toBreak_78 (by decide) (fun hc21 => ?_) (fun hc21 => ?_)
            · have h := ite_t hc21 h
              refine wp_iinc (v := 1) (ls' := [(3, .int (v3 + 1)), (0, .ref 310), (1, .int k1), (2, .int v2)]) dX11_toBreak_83 rfl (by decide) (Nat.le_of_ble_eq_true rfl) rfl ?_
              refine wp_goto (tgt := 30) dX11_toBreak_86 (by decide) ?_
              exact wp_pick (ks := [1, 2, 3, 0]) rfl (ih _ _ _ _ h kx)
            · have h := ite_f hc21 h
              refine wp_iload_n dX11_toBreak_81 rfl rfl ?_
              refine wp_istore_n (ls' := [(2, .int v3), (0, .ref 310), (1, .int k1), (3, .int v3)]) dX11_toBreak_82 rfl (Nat.le_of_ble_eq_true rfl) rfl ?_
              refine wp_iinc (v := 1) (ls' := [(3, .int (v3 + 1)), (2, .int v3), (0, .ref 310), (1, .int k1)]) dX11_toBreak_83 rfl (by decide) (Nat.le_of_ble_eq_true rfl) rfl ?_
              refine wp_goto (tgt := 30) dX11_toBreak_86 (by decide) ?_
              exact wp_pick (ks := [2, 3, 1, 0]) rfl (ih _ _ _ _ h kx)
          · have h := ite_f hc18 h
            refine wp_goto (tgt := 83) dX11_toBreak_59 (by decide) ?_
            refine wp_iinc (v := 1) (ls' := [(3, .int (v3 + 1)), (0, .ref 310), (1, .int k1), (2, .int v2)]) dX11_toBreak_83 rfl (by decide) (Nat.le_of_ble_eq_true rfl) rfl ?_
            refine wp_goto (tgt := 30) dX11_toBreak_86 (by decide) ?_
            exact wp_pick (ks := [1, 2, 3, 0]) rfl (ih _ _ _ _ h kx)
set_option maxHeartbeats 4000000 in
set_option maxRecDepth 100000 in
theorem ct_X11_toBreak (N : Nat) (d : Nat) (hd : 4 ≤ d) {S : gS} {J : gJ} (hS : Sh S)  {I : gI} {r : Int32 × gI} (h : mX11_toBreak N I = some r) : Ct yX11_toBreak (wsY yX11_toBreak cX11_toBreak 4 (some .int)) d 0 0 [.ref 310] S I J (qE (.inl (some (.int r.1))) S r.2 J) := by
  refine Ct.of hF (fun _ _ _ _ _ => trivial) (by decide +kernel) (Nat.le_of_ble_eq_true rfl) ⟨Or.inl (sn310 hS), trivial⟩ ?_
  show Wp RX11 cX11_toBreak 4 (some .int) [] hF d 0 0 0 [(0, .ref 310)] [] S I J _
  unfold mX11_toBreak at h
  refine wp_aload_n dX11_toBreak_0 rfl rfl ?_
  refine wp_iconst (v := 0) dX11_toBreak_1 (by decide) ?_
  refine wp_putI dX11_toBreak_2 (Or.inl fpX11_96) rfl ⟨rfl, rfl⟩ (sk310 hS) (sn310 hS) ?_
  refine wp_aload_n dX11_toBreak_5 rfl rfl ?_
  obtain ⟨I1, hF2, h⟩ := obi h
  refine wp_callVv (ci := 11) (As := []) dX11_toBreak_6 lbX11_laysPlan mlX11_365 imX11_laysPlan seX11_laysPlan vc11 (ct_X11_laysPlan N 3 (Nat.le_refl _) hS  hF2) rfl rfl (Nat.le_trans (by decide) hd) (sk310 hS) (sn310 hS) (Nat.le_of_ble_eq_true rfl) (fun _ => ?_)
  refine wp_aload_n dX11_toBreak_9 rfl rfl ?_
  obtain ⟨r3, hF4, h⟩ := obi h
  refine wp_callVi (ci := 11) (As := []) dX11_toBreak_10 lbX11_toMove mlX11_371 imX11_toMove seX11_toMove vc11 (ct_X11_toMove N 1 (Nat.le_refl _) hS  hF4) rfl rfl (Nat.le_trans (by decide) hd) (sk310 hS) (sn310 hS) (Nat.le_of_ble_eq_true rfl) (fun _ => ?_)
  refine wp_istore_n (ls' := [(1, .int r3), (0, .ref 310)]) dX11_toBreak_13 rfl (Nat.le_of_ble_eq_true rfl) rfl ?_
  refine wp_aload_n dX11_toBreak_14 rfl rfl ?_
  refine wp_iload_n dX11_toBreak_15 rfl rfl ?_
  refine wp_iconst (v := 0) dX11_toBreak_16 (by decide) ?_
  refine wp_iconst (v := 0) dX11_toBreak_17 (by decide) ?_
  obtain ⟨r5, hF6, h⟩ := obi h
  refine wp_callVi (ci := 11) (As := [.int r3, .int 0, .int 0]) dX11_toBreak_18 lbX11_isBooked mlX11_368 imX11_isBooked seX11_isBooked vc11 (ct_X11_isBooked N 1 (Nat.le_refl _) hS  hF6) rfl rfl (Nat.le_trans (by decide) hd) (sk310 hS) (sn310 hS) (Nat.le_of_ble_eq_true rfl) (fun _ => ?_)
  refine wp_if_ne (tgt := 26) dX11_toBreak_21 (by decide) (fun hc7 => ?_) (fun hc7 => ?_)
  · have h := ite_f hc7 h
    refine wp_iconst (v := (-1)) dX11_toBreak_26 (by decide) ?_
    refine wp_istore_n (ls' := [(2, .int (-1)), (1, .int r3), (0, .ref 310)]) dX11_toBreak_27 rfl (Nat.le_of_ble_eq_true rfl) rfl ?_
    refine wp_iconst (v := 0) dX11_toBreak_28 (by decide) ?_
    refine wp_istore_n (ls' := [(3, .int 0), (2, .int (-1)), (1, .int r3), (0, .ref 310)]) dX11_toBreak_29 rfl (Nat.le_of_ble_eq_true rfl) rfl ?_
    obtain ⟨⟨y22, I23⟩, hL924, h⟩ := obi h
    refine wp_pick (ks := [3, 2, 1, 0]) rfl (wX11_toBreak_30 N d hd hS  r3 N (-1) 0 I1 _ hL924 (fun _ _ e25 => ?_))
    cases e25
    refine wp_iload_n dX11_toBreak_89 rfl rfl ?_
    exact wp_iret dX11_toBreak_90 rfl (by obtain rfl := sji h; exact ⟨rfl, rfl, rfl, rfl⟩)
  · have h := ite_t hc7 h
    refine wp_iconst (v := (-1)) dX11_toBreak_24 (by decide) ?_
    exact wp_iret dX11_toBreak_25 rfl (by obtain rfl := sji h; exact ⟨rfl, rfl, rfl, rfl⟩)
def mX11_isFoundFor (N : Nat) (a2 : Int32) (a3 : Int32) (a4 : Int32) (a5 : Int32) (I : gI) : Option (Int32 × gI) := Option.bind (mX11_laysPools N 0 (-1) a4 a5 0 I) (fun I1 => Option.bind (mX11_isFound N a2 a3 7 I1) (fun (r3, I4) => zo r3 (some (r3, I4))))
set_option maxHeartbeats 4000000 in
set_option maxRecDepth 100000 in
theorem ct_X11_isFoundFor (N : Nat) (d : Nat) (hd : 3 ≤ d) {S : gS} {J : gJ} (hS : Sh S)  {a2 : Int32} {a3 : Int32} {a4 : Int32} {a5 : Int32} {I : gI} {r : Int32 × gI} (h : mX11_isFoundFor N a2 a3 a4 a5 I = some r) : Ct yX11_isFoundFor (wsY yX11_isFoundFor cX11_isFoundFor 5 (some .boolean)) d 0 0 [.ref 310, .int a2, .int a3, .int a4, .int a5] S I J (qE (.inl (some (.int r.1))) S r.2 J) := by
  refine Ct.of hF (fun _ _ _ _ _ => trivial) (by decide +kernel) (Nat.le_of_ble_eq_true rfl) ⟨Or.inl (sn310 hS), trivial, trivial, trivial, trivial, trivial⟩ ?_
  show Wp RX11 cX11_isFoundFor 5 (some .boolean) [] hF d 0 0 0 [(0, .ref 310), (1, .int a2), (2, .int a3), (3, .int a4), (4, .int a5)] [] S I J _
  unfold mX11_isFoundFor at h
  refine wp_aload_n dX11_isFoundFor_0 rfl rfl ?_
  refine wp_iconst (v := 0) dX11_isFoundFor_1 (by decide) ?_
  refine wp_iconst (v := (-1)) dX11_isFoundFor_2 (by decide) ?_
  refine wp_iload_n dX11_isFoundFor_3 rfl rfl ?_
  refine wp_iload dX11_isFoundFor_4 rfl ?_
  refine wp_iconst (v := 0) dX11_isFoundFor_6 (by decide) ?_
  obtain ⟨I1, hF2, h⟩ := obi h
  refine wp_callVv (ci := 11) (As := [.int 0, .int (-1), .int a4, .int a5, .int 0]) dX11_isFoundFor_7 lbX11_laysPools mlX11_261 imX11_laysPools seX11_laysPools vc11 (ct_X11_laysPools N 2 (Nat.le_refl _) hS  hF2) rfl rfl (Nat.le_trans (by decide) hd) (sk310 hS) (sn310 hS) (Nat.le_of_ble_eq_true rfl) (fun _ => ?_)
  refine wp_aload_n dX11_isFoundFor_10 rfl rfl ?_
  refine wp_iload_n dX11_isFoundFor_11 rfl rfl ?_
  refine wp_iload_n dX11_isFoundFor_12 rfl rfl ?_
  refine wp_bipush (v := 7) dX11_isFoundFor_13 (by decide) ?_
  obtain ⟨⟨r3, I4⟩, hF5, h⟩ := obi h
  refine wp_callVi (ci := 11) (As := [.int a2, .int a3, .int 7]) dX11_isFoundFor_15 lbX11_isFound mlX11_265 imX11_isFound seX11_isFound vc11 (ct_X11_isFound N 2 (Nat.le_refl _) hS  hF5) rfl rfl (Nat.le_trans (by decide) hd) (sk310 hS) (sn310 hS) (Nat.le_of_ble_eq_true rfl) (fun _ => ?_)
  obtain ⟨hz6, h⟩ := zo_inv h
  exact wp_zret dX11_isFoundFor_18 rfl hz6 (by obtain rfl := sji h; exact ⟨rfl, rfl, rfl, rfl⟩)
def mX11_widest_55 (N : Nat) (k1 : Int32) (k2 : Int32) (k3 : Int32) : Nat → Int32 → gI → Option (Int32 × gI)
  | 0, _, _ => none
  | n + 1, v4, I => if v4 ≤ 0 then (some (v4, I)) else (Option.bind (mX11_isFoundFor N k1 k2 v4 k3 I) (fun (r19, I20) => if r19 = 0 then (mX11_widest_55 N k1 k2 k3 n (v4 + (-1)) I20) else (some (v4, I20))))
def mX11_widest (N : Nat) (a2 : Int32) (a3 : Int32) (a4 : Int32) (I : gI) : Option (Int32 × gI) := Option.bind (mX11_isNode a2 (upd2 I 310 0 0)) (fun (r1, I2) => if r1 = 0 then (some (0, I2)) else (Option.bind (mX11_isNode a3 I2) (fun (r5, I6) => if r5 = 0 then (some (0, I6)) else (Option.bind (if a2 = a3 then (some 0) else (Option.bind (mX11_within a4 0 7 I6) (fun r11 => if r11 = 0 then (some 0) else (some 1))) : Option (Int32)) (fun x9 => Option.bind (mX11_right x9 2 I6) (fun (r14, I15) => if r14 = 0 then (some (0, I15)) else (Option.bind (mX11_widest_55 N a2 a3 a4 N 99 I15) (fun (y23, I24) => some (y23, I24)))))))))
set_option maxHeartbeats 4000000 in
set_option maxRecDepth 100000 in
theorem wX11_widest_55 (N : Nat) (d : Nat) (hd : 4 ≤ d) {S : gS} {J : gJ} (hS : Sh S)  (k1 : Int32) (k2 : Int32) (k3 : Int32) {Q : gO → gS → gI → gJ → Prop} :
    ∀ (n : Nat) (v4 : Int32) (I : gI) (res : Int32 × gI), mX11_widest_55 N k1 k2 k3 n v4 I = some res → (∀ (o4 : Int32) (O : gI), res = (o4, O) → Wp RX11 cX11_widest 5 (some .int) [] hF d 0 0 78 [(4, .int o4)] [] S O J Q) → Wp RX11 cX11_widest 5 (some .int) [] hF d 0 0 55 [(0, .ref 310), (1, .int k1), (2, .int k2), (3, .int k3), (4, .int v4)] [] S I J Q := by
  intro n
  induction n with
  | zero => intro v4 I res h; exact nso h
  | succ n ih =>
    intro v4 I res h kx
    rw [mX11_widest_55] at h
    refine wp_iload dX11_widest_55 rfl ?_
    refine wp_if_le (tgt := 78) dX11_widest_57 (by decide) (fun hc18 => ?_) (fun hc18 => ?_)
    · have h := ite_t hc18 h
      exact wp_pick (ks := [4]) rfl (kx _ _ (sji h).symm)
    · have h := ite_f hc18 h
      refine wp_aload_n dX11_widest_60 rfl rfl ?_
      refine wp_iload_n dX11_widest_61 rfl rfl ?_
      refine wp_iload_n dX11_widest_62 rfl rfl ?_
      refine wp_iload dX11_widest_63 rfl ?_
      refine wp_iload_n dX11_widest_65 rfl rfl ?_
      obtain ⟨⟨r19, I20⟩, hF21, h⟩ := obi h
      refine wp_callVi (ci := 11) (As := [.int k1, .int k2, .int v4, .int k3]) dX11_widest_66 lbX11_isFoundFor mlX11_380 imX11_isFoundFor seX11_isFoundFor vc11 (ct_X11_isFoundFor N 3 (Nat.le_refl _) hS  hF21) rfl rfl (Nat.le_trans (by decide) hd) (sk310 hS) (sn310 hS) (Nat.le_of_ble_eq_true rfl) (fun _ => ?_)
      refine wp_if_ne (tgt := 78) dX11_widest_69 (by decide) (fun hc22 => ?_) (fun hc22 => ?_)
      · have h := ite_f hc22 h
        exact wp_pick (ks := [4]) rfl (kx _ _ (sji h).symm)
      · have h := ite_t hc22 h
        refine wp_iinc (v := (-1)) (ls' := [(4, .int (v4 + (-1))), (0, .ref 310), (1, .int k1), (2, .int k2), (3, .int k3)]) dX11_widest_72 rfl (by decide) (Nat.le_of_ble_eq_true rfl) rfl ?_
        refine wp_goto (tgt := 55) dX11_widest_75 (by decide) ?_
        exact wp_pick (ks := [1, 2, 3, 4, 0]) rfl (ih _ _ _ h kx)
set_option maxHeartbeats 4000000 in
set_option maxRecDepth 100000 in
theorem ct_X11_widest (N : Nat) (d : Nat) (hd : 4 ≤ d) {S : gS} {J : gJ} (hS : Sh S)  {a2 : Int32} {a3 : Int32} {a4 : Int32} {I : gI} {r : Int32 × gI} (h : mX11_widest N a2 a3 a4 I = some r) : Ct yX11_widest (wsY yX11_widest cX11_widest 5 (some .int)) d 0 0 [.ref 310, .int a2, .int a3, .int a4] S I J (qE (.inl (some (.int r.1))) S r.2 J) := by
  refine Ct.of hF (fun _ _ _ _ _ => trivial) (by decide +kernel) (Nat.le_of_ble_eq_true rfl) ⟨Or.inl (sn310 hS), trivial, trivial, trivial, trivial⟩ ?_
  show Wp RX11 cX11_widest 5 (some .int) [] hF d 0 0 0 [(0, .ref 310), (1, .int a2), (2, .int a3), (3, .int a4)] [] S I J _
  unfold mX11_widest at h
  refine wp_aload_n dX11_widest_0 rfl rfl ?_
  refine wp_iconst (v := 0) dX11_widest_1 (by decide) ?_
  refine wp_putI dX11_widest_2 (Or.inl fpX11_96) rfl ⟨rfl, rfl⟩ (sk310 hS) (sn310 hS) ?_
  refine wp_aload_n dX11_widest_5 rfl rfl ?_
  refine wp_iload_n dX11_widest_6 rfl rfl ?_
  obtain ⟨⟨r1, I2⟩, hF3, h⟩ := obi h
  refine wp_callVi (ci := 11) (As := [.int a2]) dX11_widest_7 lbX11_isNode mlX11_377 imX11_isNode seX11_isNode vc11 (ct_X11_isNode 1 (Nat.le_refl _) hS  hF3) rfl rfl (Nat.le_trans (by decide) hd) (sk310 hS) (sn310 hS) (Nat.le_of_ble_eq_true rfl) (fun _ => ?_)
  refine wp_if_eq (tgt := 49) dX11_widest_10 (by decide) (fun hc4 => ?_) (fun hc4 => ?_)
  · have h := ite_t hc4 h
    refine wp_iconst (v := 0) dX11_widest_49 (by decide) ?_
    exact wp_iret dX11_widest_50 rfl (by obtain rfl := sji h; exact ⟨rfl, rfl, rfl, rfl⟩)
  · have h := ite_f hc4 h
    refine wp_aload_n dX11_widest_13 rfl rfl ?_
    refine wp_iload_n dX11_widest_14 rfl rfl ?_
    obtain ⟨⟨r5, I6⟩, hF7, h⟩ := obi h
    refine wp_callVi (ci := 11) (As := [.int a3]) dX11_widest_15 lbX11_isNode mlX11_377 imX11_isNode seX11_isNode vc11 (ct_X11_isNode 1 (Nat.le_refl _) hS  hF7) rfl rfl (Nat.le_trans (by decide) hd) (sk310 hS) (sn310 hS) (Nat.le_of_ble_eq_true rfl) (fun _ => ?_)
    refine wp_if_eq (tgt := 49) dX11_widest_18 (by decide) (fun hc8 => ?_) (fun hc8 => ?_)
    · have h := ite_t hc8 h
      refine wp_iconst (v := 0) dX11_widest_49 (by decide) ?_
      exact wp_iret dX11_widest_50 rfl (by obtain rfl := sji h; exact ⟨rfl, rfl, rfl, rfl⟩)
    · have h := ite_f hc8 h
      refine wp_aload_n dX11_widest_21 rfl rfl ?_
      refine wp_iload_n dX11_widest_22 rfl rfl ?_
      refine wp_iload_n dX11_widest_23 rfl rfl ?_
      obtain ⟨x9, hh27, h⟩ := obi h
      have hJ : Wp RX11 cX11_widest 5 (some .int) [] hF d 0 0 42 [(0, .ref 310), (1, .int a2), (2, .int a3), (3, .int a4)] [.int x9, .ref 310] S I6 J (qE (.inl (some (.int r.1))) S r.2 J) := by
        refine wp_iconst (v := 2) dX11_widest_42 (by decide) ?_
        obtain ⟨⟨r14, I15⟩, hF16, h⟩ := obi h
        refine wp_callVi (ci := 11) (As := [.int x9, .int 2]) dX11_widest_43 lbX11_right mlX11_192 imX11_right seX11_right vc11 (ct_X11_right 0 (Nat.le_refl _) hS  hF16) rfl rfl (Nat.le_trans (by decide) hd) (sk310 hS) (sn310 hS) (Nat.le_of_ble_eq_true rfl) (fun _ => ?_)
        refine wp_if_ne (tgt := 51) dX11_widest_46 (by decide) (fun hc17 => ?_) (fun hc17 => ?_)
        · have h := ite_f hc17 h
          refine wp_bipush (v := 99) dX11_widest_51 (by decide) ?_
          refine wp_istore (ls' := [(4, .int 99), (0, .ref 310), (1, .int a2), (2, .int a3), (3, .int a4)]) dX11_widest_53 (Nat.le_of_ble_eq_true rfl) rfl ?_
          obtain ⟨⟨y23, I24⟩, hL925, h⟩ := obi h
          refine wp_pick (ks := [1, 2, 3, 4, 0]) rfl (wX11_widest_55 N d hd hS  a2 a3 a4 N 99 I15 _ hL925 (fun _ _ e26 => ?_))
          cases e26
          refine wp_iload dX11_widest_78 rfl ?_
          exact wp_iret dX11_widest_80 rfl (by obtain rfl := sji h; exact ⟨rfl, rfl, rfl, rfl⟩)
        · have h := ite_t hc17 h
          refine wp_iconst (v := 0) dX11_widest_49 (by decide) ?_
          exact wp_iret dX11_widest_50 rfl (by obtain rfl := sji h; exact ⟨rfl, rfl, rfl, rfl⟩)
      clear h
      have h := hh27
      clear hh27
      refine wp_icmp_eq (tgt := 41) dX11_widest_24 (by decide) (fun hc10 => ?_) (fun hc10 => ?_)
      · have h := ite_t hc10 h
        refine wp_iconst (v := 0) dX11_widest_41 (by decide) ?_
        cases h
        exact wp_pick (ks := [0, 1, 2, 3]) rfl hJ
      · have h := ite_f hc10 h
        refine wp_iload_n dX11_widest_27 rfl rfl ?_
        refine wp_iconst (v := 0) dX11_widest_28 (by decide) ?_
        refine wp_bipush (v := 7) dX11_widest_29 (by decide) ?_
        obtain ⟨r11, hF12, h⟩ := obi h
        refine wp_callSi (As := [.int a4, .int 0, .int 7]) dX11_widest_31 lbX11_within mlX11_318 smX11_within (ct_X11_within 0 (Nat.le_refl _) hS  hF12) rfl rfl (Nat.le_trans (by decide) hd) (Nat.le_of_ble_eq_true rfl) (fun _ => ?_)
        refine wp_if_eq (tgt := 41) dX11_widest_34 (by decide) (fun hc13 => ?_) (fun hc13 => ?_)
        · have h := ite_t hc13 h
          refine wp_iconst (v := 0) dX11_widest_41 (by decide) ?_
          cases h
          exact wp_pick (ks := [0, 1, 2, 3]) rfl hJ
        · have h := ite_f hc13 h
          refine wp_iconst (v := 1) dX11_widest_37 (by decide) ?_
          refine wp_goto (tgt := 42) dX11_widest_38 (by decide) ?_
          cases h
          exact wp_pick (ks := [0, 1, 2, 3]) rfl hJ
def mX11_apart_37 (k3 : Int32) (I : gI) : Nat → Int32 → Int32 → Option (Int32)
  | 0, _, _ => none
  | n + 1, v2, v4 => if k3 ≤ v4 then (some v2) else (ck k3 2048 (ck v4 2048 (if ((I 323 k3.toNatClampNeg) &&& (I 323 v4.toNatClampNeg)) = 0 then (if v2 = (-1) then (mX11_apart_37 k3 I n ((I 324 k3.toNatClampNeg) + (I 324 v4.toNatClampNeg)) (v4 + 1)) else (if v2 ≤ ((I 324 k3.toNatClampNeg) + (I 324 v4.toNatClampNeg)) then (mX11_apart_37 k3 I n v2 (v4 + 1)) else (mX11_apart_37 k3 I n ((I 324 k3.toNatClampNeg) + (I 324 v4.toNatClampNeg)) (v4 + 1)))) else (mX11_apart_37 k3 I n v2 (v4 + 1)))))
def mX11_apart_26 (N : Nat) (I : gI) : Nat → Int32 → Int32 → Option (Int32)
  | 0, _, _ => none
  | n + 1, v2, v3 => if (I 310 35) ≤ v3 then (some v2) else (Option.bind (mX11_apart_37 v3 I N v2 0) (fun y15 => mX11_apart_26 N I n y15 (v3 + 1)))
def mX11_apart (N : Nat) (a2 : Int32) (I : gI) : Option (Int32 × gI) := Option.bind (mX11_isTunnel a2 (upd2 I 310 0 0)) (fun (r1, I2) => if r1 = 0 then (some (0, I2)) else (Option.bind (mX11_hasAny N 0 a2 I2) (fun (r5, I6) => Option.bind (mX11_apart_26 N I6 N (-1) 0) (fun y18 => some (y18, I6)))))
set_option maxHeartbeats 4000000 in
set_option maxRecDepth 100000 in
theorem wX11_apart_37 (d : Nat) (hd : 4 ≤ d) {S : gS} {J : gJ} (hS : Sh S)  (k3 : Int32) (I : gI) {Q : gO → gS → gI → gJ → Prop} :
    ∀ (n : Nat) (v2 : Int32) (v4 : Int32) (res : Int32), mX11_apart_37 k3 I n v2 v4 = some res → (∀ (o2 : Int32), res = o2 → Wp RX11 cX11_apart 6 (some .int) [] hF d 0 0 96 [(0, .ref 310), (2, .int o2), (3, .int k3)] [] S I J Q) → Wp RX11 cX11_apart 6 (some .int) [] hF d 0 0 37 [(0, .ref 310), (2, .int v2), (3, .int k3), (4, .int v4)] [] S I J Q := by
  intro n
  induction n with
  | zero => intro v2 v4 res h; exact nso h
  | succ n ih =>
    intro v2 v4 res h kx
    rw [mX11_apart_37] at h
    refine wp_iload dX11_apart_37 rfl ?_
    refine wp_iload_n dX11_apart_39 rfl rfl ?_
    refine wp_icmp_ge (tgt := 96) dX11_apart_40 (by decide) (fun hc9 => ?_) (fun hc9 => ?_)
    · have h := ite_t hc9 h
      exact wp_pick (ks := [0, 1, 2]) rfl (kx _ (sji h).symm)
    · have h := ite_f hc9 h
      refine wp_aload_n dX11_apart_43 rfl rfl ?_
      refine wp_getR dX11_apart_44 flX11_57 rfl (sk310 hS) (sn310 hS) (sr310_31 hS) ?_
      refine wp_iload_n dX11_apart_47 rfl rfl ?_
      obtain ⟨hb10, h⟩ := ck_inv h
      refine wp_iald dX11_apart_48 (sk324 hS) (sn324 hS) hb10 ?_
      refine wp_aload_n dX11_apart_49 rfl rfl ?_
      refine wp_getR dX11_apart_50 flX11_57 rfl (sk310 hS) (sn310 hS) (sr310_31 hS) ?_
      refine wp_iload dX11_apart_53 rfl ?_
      obtain ⟨hb11, h⟩ := ck_inv h
      refine wp_iald dX11_apart_55 (sk324 hS) (sn324 hS) hb11 ?_
      refine wp_iadd dX11_apart_56 ?_
      refine wp_istore (ls' := [(5, .int ((I 324 k3.toNatClampNeg) + (I 324 v4.toNatClampNeg))), (0, .ref 310), (2, .int v2), (3, .int k3), (4, .int v4)]) dX11_apart_57 (Nat.le_of_ble_eq_true rfl) rfl ?_
      refine wp_aload_n dX11_apart_59 rfl rfl ?_
      refine wp_getR dX11_apart_60 flX11_54 rfl (sk310 hS) (sn310 hS) (sr310_30 hS) ?_
      refine wp_iload_n dX11_apart_63 rfl rfl ?_
      refine wp_iald dX11_apart_64 (sk323 hS) (sn323 hS) hb10 ?_
      refine wp_aload_n dX11_apart_65 rfl rfl ?_
      refine wp_getR dX11_apart_66 flX11_54 rfl (sk310 hS) (sn310 hS) (sr310_30 hS) ?_
      refine wp_iload dX11_apart_69 rfl ?_
      refine wp_iald dX11_apart_71 (sk323 hS) (sn323 hS) hb11 ?_
      refine wp_iand dX11_apart_72 ?_
      refine wp_if_ne (tgt := 90) dX11_apart_73 (by decide) (fun hc12 => ?_) (fun hc12 => ?_)
      · have h := ite_f hc12 h
        refine wp_iinc (v := 1) (ls' := [(4, .int (v4 + 1)), (5, .int ((I 324 k3.toNatClampNeg) + (I 324 v4.toNatClampNeg))), (0, .ref 310), (2, .int v2), (3, .int k3)]) dX11_apart_90 rfl (by decide) (Nat.le_of_ble_eq_true rfl) rfl ?_
        refine wp_goto (tgt := 37) dX11_apart_93 (by decide) ?_
        exact wp_pick (ks := [2, 3, 4, 0]) rfl (ih _ _ _ h kx)
      · have h := ite_t hc12 h
        refine wp_iload_n dX11_apart_76 rfl rfl ?_
        refine wp_iconst (v := (-1)) dX11_apart_77 (by decide) ?_
        refine wp_icmp_eq (tgt := 87) dX11_apart_78 (by decide) (fun hc13 => ?_) (fun hc13 => ?_)
        · have h := ite_t hc13 h
          refine wp_iload dX11_apart_87 rfl ?_
          refine wp_istore_n (ls' := [(2, .int ((I 324 k3.toNatClampNeg) + (I 324 v4.toNatClampNeg))), (5, .int ((I 324 k3.toNatClampNeg) + (I 324 v4.toNatClampNeg))), (0, .ref 310), (3, .int k3), (4, .int v4)]) dX11_apart_89 rfl (Nat.le_of_ble_eq_true rfl) rfl ?_
          refine wp_iinc (v := 1) (ls' := [(4, .int (v4 + 1)), (2, .int ((I 324 k3.toNatClampNeg) + (I 324 v4.toNatClampNeg))), (5, .int ((I 324 k3.toNatClampNeg) + (I 324 v4.toNatClampNeg))), (0, .ref 310), (3, .int k3)]) dX11_apart_90 rfl (by decide) (Nat.le_of_ble_eq_true rfl) rfl ?_
          refine wp_goto (tgt := 37) dX11_apart_93 (by decide) ?_
          exact wp_pick (ks := [3, 1, 4, 0]) rfl (ih _ _ _ h kx)
        · have h := ite_f hc13 h
          refine wp_iload dX11_apart_81 rfl ?_
          refine wp_iload_n dX11_apart_83 rfl rfl ?_
          refine wp_icmp_ge (tgt := 90) dX11_apart_84 (by decide) (fun hc14 => ?_) (fun hc14 => ?_)
          · have h := ite_t hc14 h
            refine wp_iinc (v := 1) (ls' := [(4, .int (v4 + 1)), (5, .int ((I 324 k3.toNatClampNeg) + (I 324 v4.toNatClampNeg))), (0, .ref 310), (2, .int v2), (3, .int k3)]) dX11_apart_90 rfl (by decide) (Nat.le_of_ble_eq_true rfl) rfl ?_
            refine wp_goto (tgt := 37) dX11_apart_93 (by decide) ?_
            exact wp_pick (ks := [2, 3, 4, 0]) rfl (ih _ _ _ h kx)
          · have h := ite_f hc14 h
            refine wp_iload dX11_apart_87 rfl ?_
            refine wp_istore_n (ls' := [(2, .int ((I 324 k3.toNatClampNeg) + (I 324 v4.toNatClampNeg))), (5, .int ((I 324 k3.toNatClampNeg) + (I 324 v4.toNatClampNeg))), (0, .ref 310), (3, .int k3), (4, .int v4)]) dX11_apart_89 rfl (Nat.le_of_ble_eq_true rfl) rfl ?_
            refine wp_iinc (v := 1) (ls' := [(4, .int (v4 + 1)), (2, .int ((I 324 k3.toNatClampNeg) + (I 324 v4.toNatClampNeg))), (5, .int ((I 324 k3.toNatClampNeg) + (I 324 v4.toNatClampNeg))), (0, .ref 310), (3, .int k3)]) dX11_apart_90 rfl (by decide) (Nat.le_of_ble_eq_true rfl) rfl ?_
            refine wp_goto (tgt := 37) dX11_apart_93 (by decide) ?_
            exact wp_pick (ks := [3, 1, 4, 0]) rfl (ih _ _ _ h kx)
set_option maxHeartbeats 4000000 in
set_option maxRecDepth 100000 in
theorem wX11_apart_26 (N : Nat) (d : Nat) (hd : 4 ≤ d) {S : gS} {J : gJ} (hS : Sh S)  (I : gI) {Q : gO → gS → gI → gJ → Prop} :
    ∀ (n : Nat) (v2 : Int32) (v3 : Int32) (res : Int32), mX11_apart_26 N I n v2 v3 = some res → (∀ (o2 : Int32), res = o2 → Wp RX11 cX11_apart 6 (some .int) [] hF d 0 0 102 [(2, .int o2)] [] S I J Q) → Wp RX11 cX11_apart 6 (some .int) [] hF d 0 0 26 [(0, .ref 310), (2, .int v2), (3, .int v3)] [] S I J Q := by
  intro n
  induction n with
  | zero => intro v2 v3 res h; exact nso h
  | succ n ih =>
    intro v2 v3 res h kx
    rw [mX11_apart_26] at h
    refine wp_iload_n dX11_apart_26 rfl rfl ?_
    refine wp_aload_n dX11_apart_27 rfl rfl ?_
    refine wp_getI dX11_apart_28 flX11_243 rfl (sk310 hS) (sn310 hS) ?_
    refine wp_icmp_ge (tgt := 102) dX11_apart_31 (by decide) (fun hc8 => ?_) (fun hc8 => ?_)
    · have h := ite_t hc8 h
      exact wp_pick (ks := [1]) rfl (kx _ (sji h).symm)
    · have h := ite_f hc8 h
      refine wp_iconst (v := 0) dX11_apart_34 (by decide) ?_
      refine wp_istore (ls' := [(4, .int 0), (0, .ref 310), (2, .int v2), (3, .int v3)]) dX11_apart_35 (Nat.le_of_ble_eq_true rfl) rfl ?_
      obtain ⟨y15, hL916, h⟩ := obi h
      refine wp_pick (ks := [1, 2, 3, 0]) rfl (wX11_apart_37 d hd hS  v3 I N v2 0 _ hL916 (fun _ e17 => ?_))
      cases e17
      refine wp_iinc (v := 1) (ls' := [(3, .int (v3 + 1)), (0, .ref 310), (2, .int y15)]) dX11_apart_96 rfl (by decide) (Nat.le_of_ble_eq_true rfl) rfl ?_
      refine wp_goto (tgt := 26) dX11_apart_99 (by decide) ?_
      exact wp_pick (ks := [1, 2, 0]) rfl (ih _ _ _ h kx)
set_option maxHeartbeats 4000000 in
set_option maxRecDepth 100000 in
theorem ct_X11_apart (N : Nat) (d : Nat) (hd : 4 ≤ d) {S : gS} {J : gJ} (hS : Sh S)  {a2 : Int32} {I : gI} {r : Int32 × gI} (h : mX11_apart N a2 I = some r) : Ct yX11_apart (wsY yX11_apart cX11_apart 6 (some .int)) d 0 0 [.ref 310, .int a2] S I J (qE (.inl (some (.int r.1))) S r.2 J) := by
  refine Ct.of hF (fun _ _ _ _ _ => trivial) (by decide +kernel) (Nat.le_of_ble_eq_true rfl) ⟨Or.inl (sn310 hS), trivial, trivial⟩ ?_
  show Wp RX11 cX11_apart 6 (some .int) [] hF d 0 0 0 [(0, .ref 310), (1, .int a2)] [] S I J _
  unfold mX11_apart at h
  refine wp_aload_n dX11_apart_0 rfl rfl ?_
  refine wp_iconst (v := 0) dX11_apart_1 (by decide) ?_
  refine wp_putI dX11_apart_2 (Or.inl fpX11_96) rfl ⟨rfl, rfl⟩ (sk310 hS) (sn310 hS) ?_
  refine wp_aload_n dX11_apart_5 rfl rfl ?_
  refine wp_iload_n dX11_apart_6 rfl rfl ?_
  obtain ⟨⟨r1, I2⟩, hF3, h⟩ := obi h
  refine wp_callVi (ci := 11) (As := [.int a2]) dX11_apart_7 lbX11_isTunnel mlX11_347 imX11_isTunnel seX11_isTunnel vc11 (ct_X11_isTunnel 1 (Nat.le_refl _) hS  hF3) rfl rfl (Nat.le_trans (by decide) hd) (sk310 hS) (sn310 hS) (Nat.le_of_ble_eq_true rfl) (fun _ => ?_)
  refine wp_if_ne (tgt := 15) dX11_apart_10 (by decide) (fun hc4 => ?_) (fun hc4 => ?_)
  · have h := ite_f hc4 h
    refine wp_aload_n dX11_apart_15 rfl rfl ?_
    refine wp_iconst (v := 0) dX11_apart_16 (by decide) ?_
    refine wp_iload_n dX11_apart_17 rfl rfl ?_
    obtain ⟨⟨r5, I6⟩, hF7, h⟩ := obi h
    refine wp_callVi (ci := 11) (As := [.int 0, .int a2]) dX11_apart_18 lbX11_hasAny mlX11_344 imX11_hasAny seX11_hasAny vc11 (ct_X11_hasAny N 3 (Nat.le_refl _) hS  hF7) rfl rfl (Nat.le_trans (by decide) hd) (sk310 hS) (sn310 hS) (Nat.le_of_ble_eq_true rfl) (fun _ => ?_)
    refine wp_pop dX11_apart_21 rfl ?_
    refine wp_iconst (v := (-1)) dX11_apart_22 (by decide) ?_
    refine wp_istore_n (ls' := [(2, .int (-1)), (0, .ref 310), (1, .int a2)]) dX11_apart_23 rfl (Nat.le_of_ble_eq_true rfl) rfl ?_
    refine wp_iconst (v := 0) dX11_apart_24 (by decide) ?_
    refine wp_istore_n (ls' := [(3, .int 0), (2, .int (-1)), (0, .ref 310), (1, .int a2)]) dX11_apart_25 rfl (Nat.le_of_ble_eq_true rfl) rfl ?_
    obtain ⟨y18, hL919, h⟩ := obi h
    refine wp_pick (ks := [2, 1, 0]) rfl (wX11_apart_26 N d hd hS  I6 N (-1) 0 _ hL919 (fun _ e20 => ?_))
    cases e20
    refine wp_iload_n dX11_apart_102 rfl rfl ?_
    exact wp_iret dX11_apart_103 rfl (by obtain rfl := sji h; exact ⟨rfl, rfl, rfl, rfl⟩)
  · have h := ite_t hc4 h
    refine wp_iconst (v := 0) dX11_apart_13 (by decide) ?_
    exact wp_iret dX11_apart_14 rfl (by obtain rfl := sji h; exact ⟨rfl, rfl, rfl, rfl⟩)
def mX11_doesReach_22 (k2 : Int32) (k3 : Int32) (k5 : Int32) (I : gI) : Nat → Int32 → Int32 → Option (Int32)
  | 0, _, _ => none
  | n + 1, v4, v6 => if (I 310 14) ≤ v6 then (some v4) else (if v6 = k3 then (mX11_doesReach_22 k2 k3 k5 I n v4 (v6 + 1)) else (Option.bind (mX11_isUp 0 v6 I) (fun r4 => if r4 = 0 then (mX11_doesReach_22 k2 k3 k5 I n v4 (v6 + 1)) else (ck (5 * v6) 80 (if ((v4 >>> ((I 313 (5 * v6).toNatClampNeg) &&& 31)) &&& 1) = 1 then (ck ((5 * v6) + 1) 80 (nm ((1 : Int32) <<< ((I 313 ((5 * v6) + 1).toNatClampNeg) &&& 31)) (fun x10 => mX11_doesReach_22 k2 k3 k5 I n (v4 ||| x10) (v6 + 1)))) else (mX11_doesReach_22 k2 k3 k5 I n v4 (v6 + 1)))))))
def mX11_doesReach_8 (N : Nat) (k2 : Int32) (k3 : Int32) (I : gI) : Nat → Int32 → Int32 → Option (Int32)
  | 0, _, _ => none
  | n + 1, v4, v5 => if v5 = v4 then (some v4) else (Option.bind (mX11_doesReach_22 k2 k3 v4 I N v4 0) (fun y12 => mX11_doesReach_8 N k2 k3 I n y12 v4))
def mX11_doesReach (N : Nat) (a2 : Int32) (a3 : Int32) (a4 : Int32) (I : gI) : Option (Int32) := Option.bind (mX11_doesReach_8 N a3 a4 I N ((1 : Int32) <<< (a2 &&& 31)) 0) (fun y15 => if ((y15 >>> (a3 &&& 31)) &&& 1) = 1 then (some 1) else (some 0))
set_option maxHeartbeats 4000000 in
set_option maxRecDepth 100000 in
theorem wX11_doesReach_22 (d : Nat) (hd : 1 ≤ d) {S : gS} {J : gJ} (hS : Sh S)  (k2 : Int32) (k3 : Int32) (k5 : Int32) (I : gI) {Q : gO → gS → gI → gJ → Prop} :
    ∀ (n : Nat) (v4 : Int32) (v6 : Int32) (res : Int32), mX11_doesReach_22 k2 k3 k5 I n v4 v6 = some res → (∀ (o4 : Int32), res = o4 → Wp RX11 cX11_doesReach 7 (some .boolean) [] hF d 0 0 89 [(0, .ref 310), (2, .int k2), (3, .int k3), (4, .int o4), (5, .int k5)] [] S I J Q) → Wp RX11 cX11_doesReach 7 (some .boolean) [] hF d 0 0 22 [(0, .ref 310), (2, .int k2), (3, .int k3), (4, .int v4), (5, .int k5), (6, .int v6)] [] S I J Q := by
  intro n
  induction n with
  | zero => intro v4 v6 res h; exact nso h
  | succ n ih =>
    intro v4 v6 res h kx
    rw [mX11_doesReach_22] at h
    refine wp_iload dX11_doesReach_22 rfl ?_
    refine wp_aload_n dX11_doesReach_24 rfl rfl ?_
    refine wp_getI dX11_doesReach_25 flX11_199 rfl (sk310 hS) (sn310 hS) ?_
    refine wp_icmp_ge (tgt := 89) dX11_doesReach_28 (by decide) (fun hc2 => ?_) (fun hc2 => ?_)
    · have h := ite_t hc2 h
      exact wp_pick (ks := [0, 1, 2, 3, 4]) rfl (kx _ (sji h).symm)
    · have h := ite_f hc2 h
      refine wp_iload dX11_doesReach_31 rfl ?_
      refine wp_iload_n dX11_doesReach_33 rfl rfl ?_
      refine wp_icmp_eq (tgt := 83) dX11_doesReach_34 (by decide) (fun hc3 => ?_) (fun hc3 => ?_)
      · have h := ite_t hc3 h
        refine wp_iinc (v := 1) (ls' := [(6, .int (v6 + 1)), (0, .ref 310), (2, .int k2), (3, .int k3), (4, .int v4), (5, .int k5)]) dX11_doesReach_83 rfl (by decide) (Nat.le_of_ble_eq_true rfl) rfl ?_
        refine wp_goto (tgt := 22) dX11_doesReach_86 (by decide) ?_
        exact wp_pick (ks := [1, 2, 3, 4, 5, 0]) rfl (ih _ _ _ h kx)
      · have h := ite_f hc3 h
        refine wp_aload_n dX11_doesReach_37 rfl rfl ?_
        refine wp_iconst (v := 0) dX11_doesReach_38 (by decide) ?_
        refine wp_iload dX11_doesReach_39 rfl ?_
        obtain ⟨r4, hF5, h⟩ := obi h
        refine wp_callVi (ci := 11) (As := [.int 0, .int v6]) dX11_doesReach_41 lbX11_isUp mlX11_233 imX11_isUp seX11_isUp vc11 (ct_X11_isUp 0 (Nat.le_refl _) hS  hF5) rfl rfl (Nat.le_trans (by decide) hd) (sk310 hS) (sn310 hS) (Nat.le_of_ble_eq_true rfl) (fun _ => ?_)
        refine wp_if_eq (tgt := 83) dX11_doesReach_44 (by decide) (fun hc6 => ?_) (fun hc6 => ?_)
        · have h := ite_t hc6 h
          refine wp_iinc (v := 1) (ls' := [(6, .int (v6 + 1)), (0, .ref 310), (2, .int k2), (3, .int k3), (4, .int v4), (5, .int k5)]) dX11_doesReach_83 rfl (by decide) (Nat.le_of_ble_eq_true rfl) rfl ?_
          refine wp_goto (tgt := 22) dX11_doesReach_86 (by decide) ?_
          exact wp_pick (ks := [1, 2, 3, 4, 5, 0]) rfl (ih _ _ _ h kx)
        · have h := ite_f hc6 h
          refine wp_iload dX11_doesReach_47 rfl ?_
          refine wp_aload_n dX11_doesReach_49 rfl rfl ?_
          refine wp_getR dX11_doesReach_50 flX11_23 rfl (sk310 hS) (sn310 hS) (sr310_19 hS) ?_
          refine wp_iconst (v := 5) dX11_doesReach_53 (by decide) ?_
          refine wp_iload dX11_doesReach_54 rfl ?_
          refine wp_imul dX11_doesReach_56 ?_
          obtain ⟨hb7, h⟩ := ck_inv h
          refine wp_iald dX11_doesReach_57 (sk313 hS) (sn313 hS) hb7 ?_
          refine wp_ishr dX11_doesReach_58 ?_
          refine wp_iconst (v := 1) dX11_doesReach_59 (by decide) ?_
          refine wp_iand dX11_doesReach_60 ?_
          refine wp_iconst (v := 1) dX11_doesReach_61 (by decide) ?_
          refine wp_icmp_ne (tgt := 83) dX11_doesReach_62 (by decide) (fun hc8 => ?_) (fun hc8 => ?_)
          · have h := ite_f hc8 h
            refine wp_iinc (v := 1) (ls' := [(6, .int (v6 + 1)), (0, .ref 310), (2, .int k2), (3, .int k3), (4, .int v4), (5, .int k5)]) dX11_doesReach_83 rfl (by decide) (Nat.le_of_ble_eq_true rfl) rfl ?_
            refine wp_goto (tgt := 22) dX11_doesReach_86 (by decide) ?_
            exact wp_pick (ks := [1, 2, 3, 4, 5, 0]) rfl (ih _ _ _ h kx)
          · have h := ite_t hc8 h
            refine wp_iload dX11_doesReach_65 rfl ?_
            refine wp_iconst (v := 1) dX11_doesReach_67 (by decide) ?_
            refine wp_aload_n dX11_doesReach_68 rfl rfl ?_
            refine wp_getR dX11_doesReach_69 flX11_23 rfl (sk310 hS) (sn310 hS) (sr310_19 hS) ?_
            refine wp_iconst (v := 5) dX11_doesReach_72 (by decide) ?_
            refine wp_iload dX11_doesReach_73 rfl ?_
            refine wp_imul dX11_doesReach_75 ?_
            refine wp_iconst (v := 1) dX11_doesReach_76 (by decide) ?_
            refine wp_iadd dX11_doesReach_77 ?_
            obtain ⟨hb9, h⟩ := ck_inv h
            refine wp_iald dX11_doesReach_78 (sk313 hS) (sn313 hS) hb9 ?_
            refine wp_ishl dX11_doesReach_79 ?_
            obtain ⟨x10, hx11, h⟩ := nm_inv h
            refine wp_topi hx11 ?_
            refine wp_ior dX11_doesReach_80 ?_
            refine wp_istore (ls' := [(4, .int (v4 ||| x10)), (0, .ref 310), (2, .int k2), (3, .int k3), (5, .int k5), (6, .int v6)]) dX11_doesReach_81 (Nat.le_of_ble_eq_true rfl) rfl ?_
            refine wp_iinc (v := 1) (ls' := [(6, .int (v6 + 1)), (4, .int (v4 ||| x10)), (0, .ref 310), (2, .int k2), (3, .int k3), (5, .int k5)]) dX11_doesReach_83 rfl (by decide) (Nat.le_of_ble_eq_true rfl) rfl ?_
            refine wp_goto (tgt := 22) dX11_doesReach_86 (by decide) ?_
            exact wp_pick (ks := [2, 3, 4, 1, 5, 0]) rfl (ih _ _ _ h kx)
set_option maxHeartbeats 4000000 in
set_option maxRecDepth 100000 in
theorem wX11_doesReach_8 (N : Nat) (d : Nat) (hd : 1 ≤ d) {S : gS} {J : gJ} (hS : Sh S)  (k2 : Int32) (k3 : Int32) (I : gI) {Q : gO → gS → gI → gJ → Prop} :
    ∀ (n : Nat) (v4 : Int32) (v5 : Int32) (res : Int32), mX11_doesReach_8 N k2 k3 I n v4 v5 = some res → (∀ (o4 : Int32), res = o4 → Wp RX11 cX11_doesReach 7 (some .boolean) [] hF d 0 0 92 [(2, .int k2), (4, .int o4)] [] S I J Q) → Wp RX11 cX11_doesReach 7 (some .boolean) [] hF d 0 0 8 [(0, .ref 310), (2, .int k2), (3, .int k3), (4, .int v4), (5, .int v5)] [] S I J Q := by
  intro n
  induction n with
  | zero => intro v4 v5 res h; exact nso h
  | succ n ih =>
    intro v4 v5 res h kx
    rw [mX11_doesReach_8] at h
    refine wp_iload dX11_doesReach_8 rfl ?_
    refine wp_iload dX11_doesReach_10 rfl ?_
    refine wp_icmp_eq (tgt := 92) dX11_doesReach_12 (by decide) (fun hc1 => ?_) (fun hc1 => ?_)
    · have h := ite_t hc1 h
      exact wp_pick (ks := [1, 3]) rfl (kx _ (sji h).symm)
    · have h := ite_f hc1 h
      refine wp_iload dX11_doesReach_15 rfl ?_
      refine wp_istore (ls' := [(5, .int v4), (0, .ref 310), (2, .int k2), (3, .int k3), (4, .int v4)]) dX11_doesReach_17 (Nat.le_of_ble_eq_true rfl) rfl ?_
      refine wp_iconst (v := 0) dX11_doesReach_19 (by decide) ?_
      refine wp_istore (ls' := [(6, .int 0), (5, .int v4), (0, .ref 310), (2, .int k2), (3, .int k3), (4, .int v4)]) dX11_doesReach_20 (Nat.le_of_ble_eq_true rfl) rfl ?_
      obtain ⟨y12, hL913, h⟩ := obi h
      refine wp_pick (ks := [2, 3, 4, 5, 1, 0]) rfl (wX11_doesReach_22 d hd hS  k2 k3 v4 I N v4 0 _ hL913 (fun _ e14 => ?_))
      cases e14
      refine wp_goto (tgt := 8) dX11_doesReach_89 (by decide) ?_
      exact wp_pick (ks := [0, 1, 2, 3, 4]) rfl (ih _ _ _ h kx)
set_option maxHeartbeats 4000000 in
set_option maxRecDepth 100000 in
theorem ct_X11_doesReach (N : Nat) (d : Nat) (hd : 1 ≤ d) {S : gS} {J : gJ} (hS : Sh S)  {a2 : Int32} {a3 : Int32} {a4 : Int32} {I : gI} {r : Int32} (h : mX11_doesReach N a2 a3 a4 I = some r) : Ct yX11_doesReach (wsY yX11_doesReach cX11_doesReach 7 (some .boolean)) d 0 0 [.ref 310, .int a2, .int a3, .int a4] S I J (qE (.inl (some (.int r))) S I J) := by
  refine Ct.of hF (fun _ _ _ _ _ => trivial) (by decide +kernel) (Nat.le_of_ble_eq_true rfl) ⟨Or.inl (sn310 hS), trivial, trivial, trivial, trivial⟩ ?_
  show Wp RX11 cX11_doesReach 7 (some .boolean) [] hF d 0 0 0 [(0, .ref 310), (1, .int a2), (2, .int a3), (3, .int a4)] [] S I J _
  unfold mX11_doesReach at h
  refine wp_iconst (v := 1) dX11_doesReach_0 (by decide) ?_
  refine wp_iload_n dX11_doesReach_1 rfl rfl ?_
  refine wp_ishl dX11_doesReach_2 ?_
  refine wp_istore (ls' := [(4, .int ((1 : Int32) <<< (a2 &&& 31))), (0, .ref 310), (1, .int a2), (2, .int a3), (3, .int a4)]) dX11_doesReach_3 (Nat.le_of_ble_eq_true rfl) rfl ?_
  refine wp_iconst (v := 0) dX11_doesReach_5 (by decide) ?_
  refine wp_istore (ls' := [(5, .int 0), (4, .int ((1 : Int32) <<< (a2 &&& 31))), (0, .ref 310), (1, .int a2), (2, .int a3), (3, .int a4)]) dX11_doesReach_6 (Nat.le_of_ble_eq_true rfl) rfl ?_
  obtain ⟨y15, hL917, h⟩ := obi h
  refine wp_pick (ks := [2, 4, 5, 1, 0]) rfl (wX11_doesReach_8 N d hd hS  a3 a4 I N ((1 : Int32) <<< (a2 &&& 31)) 0 _ hL917 (fun _ e18 => ?_))
  cases e18
  refine wp_iload dX11_doesReach_92 rfl ?_
  refine wp_iload_n dX11_doesReach_94 rfl rfl ?_
  refine wp_ishr dX11_doesReach_95 ?_
  refine wp_iconst (v := 1) dX11_doesReach_96 (by decide) ?_
  refine wp_iand dX11_doesReach_97 ?_
  refine wp_iconst (v := 1) dX11_doesReach_98 (by decide) ?_
  refine wp_icmp_ne (tgt := 106) dX11_doesReach_99 (by decide) (fun hc16 => ?_) (fun hc16 => ?_)
  · have h := ite_f hc16 h
    refine wp_iconst (v := 0) dX11_doesReach_106 (by decide) ?_
    exact wp_zret dX11_doesReach_107 rfl (by decide) (by obtain rfl := sji h; exact ⟨rfl, rfl, rfl, rfl⟩)
  · have h := ite_t hc16 h
    refine wp_iconst (v := 1) dX11_doesReach_102 (by decide) ?_
    refine wp_goto (tgt := 107) dX11_doesReach_103 (by decide) ?_
    exact wp_zret dX11_doesReach_107 rfl (by decide) (by obtain rfl := sji h; exact ⟨rfl, rfl, rfl, rfl⟩)
def mX11_cuts_58 (N : Nat) (k1 : Int32) (k2 : Int32) (I : gI) : Nat → Int32 → Int32 → Option (Int32)
  | 0, _, _ => none
  | n + 1, v3, v4 => if (I 310 14) ≤ v4 then (some v3) else (Option.bind (mX11_isUp 0 v4 I) (fun r19 => if r19 = 0 then (mX11_cuts_58 N k1 k2 I n (v3 ||| 0) (v4 + 1)) else (Option.bind (mX11_doesReach N k1 k2 v4 I) (fun r22 => if r22 = 0 then (mX11_cuts_58 N k1 k2 I n (v3 ||| ((1 : Int32) <<< (v4 &&& 31))) (v4 + 1)) else (mX11_cuts_58 N k1 k2 I n (v3 ||| 0) (v4 + 1))))))
def mX11_cuts (N : Nat) (a2 : Int32) (a3 : Int32) (I : gI) : Option (Int32 × gI) := Option.bind (mX11_isNode a2 (upd2 I 310 0 0)) (fun (r1, I2) => if r1 = 0 then (some (0, I2)) else (Option.bind (mX11_isNode a3 I2) (fun (r5, I6) => if r5 = 0 then (some (0, I6)) else (Option.bind (if a2 = a3 then (some 0) else (some 1) : Option (Int32)) (fun x9 => Option.bind (mX11_right x9 2 I6) (fun (r11, I12) => if r11 = 0 then (some (0, I12)) else (Option.bind (mX11_doesReach N a2 a3 (-1) I12) (fun r15 => if r15 = 0 then (some (0, I12)) else (Option.bind (mX11_cuts_58 N a2 a3 I12 N 0 0) (fun y25 => some (y25, I12)))))))))))
set_option maxHeartbeats 4000000 in
set_option maxRecDepth 100000 in
theorem wX11_cuts_58 (N : Nat) (d : Nat) (hd : 2 ≤ d) {S : gS} {J : gJ} (hS : Sh S)  (k1 : Int32) (k2 : Int32) (I : gI) {Q : gO → gS → gI → gJ → Prop} :
    ∀ (n : Nat) (v3 : Int32) (v4 : Int32) (res : Int32), mX11_cuts_58 N k1 k2 I n v3 v4 = some res → (∀ (o3 : Int32), res = o3 → Wp RX11 cX11_cuts 5 (some .int) [] hF d 0 0 105 [(3, .int o3)] [] S I J Q) → Wp RX11 cX11_cuts 5 (some .int) [] hF d 0 0 58 [(0, .ref 310), (1, .int k1), (2, .int k2), (3, .int v3), (4, .int v4)] [] S I J Q := by
  intro n
  induction n with
  | zero => intro v3 v4 res h; exact nso h
  | succ n ih =>
    intro v3 v4 res h kx
    rw [mX11_cuts_58] at h
    refine wp_iload dX11_cuts_58 rfl ?_
    refine wp_aload_n dX11_cuts_60 rfl rfl ?_
    refine wp_getI dX11_cuts_61 flX11_199 rfl (sk310 hS) (sn310 hS) ?_
    refine wp_icmp_ge (tgt := 105) dX11_cuts_64 (by decide) (fun hc18 => ?_) (fun hc18 => ?_)
    · have h := ite_t hc18 h
      exact wp_pick (ks := [3]) rfl (kx _ (sji h).symm)
    · have h := ite_f hc18 h
      refine wp_iload_n dX11_cuts_67 rfl rfl ?_
      refine wp_aload_n dX11_cuts_68 rfl rfl ?_
      refine wp_iconst (v := 0) dX11_cuts_69 (by decide) ?_
      refine wp_iload dX11_cuts_70 rfl ?_
      obtain ⟨r19, hF20, h⟩ := obi h
      refine wp_callVi (ci := 11) (As := [.int 0, .int v4]) dX11_cuts_72 lbX11_isUp mlX11_233 imX11_isUp seX11_isUp vc11 (ct_X11_isUp 0 (Nat.le_refl _) hS  hF20) rfl rfl (Nat.le_trans (by decide) hd) (sk310 hS) (sn310 hS) (Nat.le_of_ble_eq_true rfl) (fun _ => ?_)
      refine wp_if_eq (tgt := 96) dX11_cuts_75 (by decide) (fun hc21 => ?_) (fun hc21 => ?_)
      · have h := ite_t hc21 h
        refine wp_iconst (v := 0) dX11_cuts_96 (by decide) ?_
        refine wp_ior dX11_cuts_97 ?_
        refine wp_istore_n (ls' := [(3, .int (v3 ||| 0)), (0, .ref 310), (1, .int k1), (2, .int k2), (4, .int v4)]) dX11_cuts_98 rfl (Nat.le_of_ble_eq_true rfl) rfl ?_
        refine wp_iinc (v := 1) (ls' := [(4, .int (v4 + 1)), (3, .int (v3 ||| 0)), (0, .ref 310), (1, .int k1), (2, .int k2)]) dX11_cuts_99 rfl (by decide) (Nat.le_of_ble_eq_true rfl) rfl ?_
        refine wp_goto (tgt := 58) dX11_cuts_102 (by decide) ?_
        exact wp_pick (ks := [2, 3, 4, 1, 0]) rfl (ih _ _ _ h kx)
      · have h := ite_f hc21 h
        refine wp_aload_n dX11_cuts_78 rfl rfl ?_
        refine wp_iload_n dX11_cuts_79 rfl rfl ?_
        refine wp_iload_n dX11_cuts_80 rfl rfl ?_
        refine wp_iload dX11_cuts_81 rfl ?_
        obtain ⟨r22, hF23, h⟩ := obi h
        refine wp_callVi (ci := 11) (As := [.int k1, .int k2, .int v4]) dX11_cuts_83 lbX11_doesReach mlX11_384 imX11_doesReach seX11_doesReach vc11 (ct_X11_doesReach N 1 (Nat.le_refl _) hS  hF23) rfl rfl (Nat.le_trans (by decide) hd) (sk310 hS) (sn310 hS) (Nat.le_of_ble_eq_true rfl) (fun _ => ?_)
        refine wp_if_ne (tgt := 96) dX11_cuts_86 (by decide) (fun hc24 => ?_) (fun hc24 => ?_)
        · have h := ite_f hc24 h
          refine wp_iconst (v := 0) dX11_cuts_96 (by decide) ?_
          refine wp_ior dX11_cuts_97 ?_
          refine wp_istore_n (ls' := [(3, .int (v3 ||| 0)), (0, .ref 310), (1, .int k1), (2, .int k2), (4, .int v4)]) dX11_cuts_98 rfl (Nat.le_of_ble_eq_true rfl) rfl ?_
          refine wp_iinc (v := 1) (ls' := [(4, .int (v4 + 1)), (3, .int (v3 ||| 0)), (0, .ref 310), (1, .int k1), (2, .int k2)]) dX11_cuts_99 rfl (by decide) (Nat.le_of_ble_eq_true rfl) rfl ?_
          refine wp_goto (tgt := 58) dX11_cuts_102 (by decide) ?_
          exact wp_pick (ks := [2, 3, 4, 1, 0]) rfl (ih _ _ _ h kx)
        · have h := ite_t hc24 h
          refine wp_iconst (v := 1) dX11_cuts_89 (by decide) ?_
          refine wp_iload dX11_cuts_90 rfl ?_
          refine wp_ishl dX11_cuts_92 ?_
          refine wp_goto (tgt := 97) dX11_cuts_93 (by decide) ?_
          refine wp_ior dX11_cuts_97 ?_
          refine wp_istore_n (ls' := [(3, .int (v3 ||| ((1 : Int32) <<< (v4 &&& 31)))), (0, .ref 310), (1, .int k1), (2, .int k2), (4, .int v4)]) dX11_cuts_98 rfl (Nat.le_of_ble_eq_true rfl) rfl ?_
          refine wp_iinc (v := 1) (ls' := [(4, .int (v4 + 1)), (3, .int (v3 ||| ((1 : Int32) <<< (v4 &&& 31)))), (0, .ref 310), (1, .int k1), (2, .int k2)]) dX11_cuts_99 rfl (by decide) (Nat.le_of_ble_eq_true rfl) rfl ?_
          refine wp_goto (tgt := 58) dX11_cuts_102 (by decide) ?_
          exact wp_pick (ks := [2, 3, 4, 1, 0]) rfl (ih _ _ _ h kx)
set_option maxHeartbeats 4000000 in
set_option maxRecDepth 100000 in
theorem ct_X11_cuts (N : Nat) (d : Nat) (hd : 2 ≤ d) {S : gS} {J : gJ} (hS : Sh S)  {a2 : Int32} {a3 : Int32} {I : gI} {r : Int32 × gI} (h : mX11_cuts N a2 a3 I = some r) : Ct yX11_cuts (wsY yX11_cuts cX11_cuts 5 (some .int)) d 0 0 [.ref 310, .int a2, .int a3] S I J (qE (.inl (some (.int r.1))) S r.2 J) := by
  refine Ct.of hF (fun _ _ _ _ _ => trivial) (by decide +kernel) (Nat.le_of_ble_eq_true rfl) ⟨Or.inl (sn310 hS), trivial, trivial, trivial⟩ ?_
  show Wp RX11 cX11_cuts 5 (some .int) [] hF d 0 0 0 [(0, .ref 310), (1, .int a2), (2, .int a3)] [] S I J _
  unfold mX11_cuts at h
  refine wp_aload_n dX11_cuts_0 rfl rfl ?_
  refine wp_iconst (v := 0) dX11_cuts_1 (by decide) ?_
  refine wp_putI dX11_cuts_2 (Or.inl fpX11_96) rfl ⟨rfl, rfl⟩ (sk310 hS) (sn310 hS) ?_
  refine wp_aload_n dX11_cuts_5 rfl rfl ?_
  refine wp_iload_n dX11_cuts_6 rfl rfl ?_
  obtain ⟨⟨r1, I2⟩, hF3, h⟩ := obi h
  refine wp_callVi (ci := 11) (As := [.int a2]) dX11_cuts_7 lbX11_isNode mlX11_377 imX11_isNode seX11_isNode vc11 (ct_X11_isNode 1 (Nat.le_refl _) hS  hF3) rfl rfl (Nat.le_trans (by decide) hd) (sk310 hS) (sn310 hS) (Nat.le_of_ble_eq_true rfl) (fun _ => ?_)
  refine wp_if_eq (tgt := 39) dX11_cuts_10 (by decide) (fun hc4 => ?_) (fun hc4 => ?_)
  · have h := ite_t hc4 h
    refine wp_iconst (v := 0) dX11_cuts_39 (by decide) ?_
    exact wp_iret dX11_cuts_40 rfl (by obtain rfl := sji h; exact ⟨rfl, rfl, rfl, rfl⟩)
  · have h := ite_f hc4 h
    refine wp_aload_n dX11_cuts_13 rfl rfl ?_
    refine wp_iload_n dX11_cuts_14 rfl rfl ?_
    obtain ⟨⟨r5, I6⟩, hF7, h⟩ := obi h
    refine wp_callVi (ci := 11) (As := [.int a3]) dX11_cuts_15 lbX11_isNode mlX11_377 imX11_isNode seX11_isNode vc11 (ct_X11_isNode 1 (Nat.le_refl _) hS  hF7) rfl rfl (Nat.le_trans (by decide) hd) (sk310 hS) (sn310 hS) (Nat.le_of_ble_eq_true rfl) (fun _ => ?_)
    refine wp_if_eq (tgt := 39) dX11_cuts_18 (by decide) (fun hc8 => ?_) (fun hc8 => ?_)
    · have h := ite_t hc8 h
      refine wp_iconst (v := 0) dX11_cuts_39 (by decide) ?_
      exact wp_iret dX11_cuts_40 rfl (by obtain rfl := sji h; exact ⟨rfl, rfl, rfl, rfl⟩)
    · have h := ite_f hc8 h
      refine wp_aload_n dX11_cuts_21 rfl rfl ?_
      refine wp_iload_n dX11_cuts_22 rfl rfl ?_
      refine wp_iload_n dX11_cuts_23 rfl rfl ?_
      obtain ⟨x9, hh28, h⟩ := obi h
      have hJ : Wp RX11 cX11_cuts 5 (some .int) [] hF d 0 0 32 [(0, .ref 310), (1, .int a2), (2, .int a3)] [.int x9, .ref 310] S I6 J (qE (.inl (some (.int r.1))) S r.2 J) := by
        refine wp_iconst (v := 2) dX11_cuts_32 (by decide) ?_
        obtain ⟨⟨r11, I12⟩, hF13, h⟩ := obi h
        refine wp_callVi (ci := 11) (As := [.int x9, .int 2]) dX11_cuts_33 lbX11_right mlX11_192 imX11_right seX11_right vc11 (ct_X11_right 0 (Nat.le_refl _) hS  hF13) rfl rfl (Nat.le_trans (by decide) hd) (sk310 hS) (sn310 hS) (Nat.le_of_ble_eq_true rfl) (fun _ => ?_)
        refine wp_if_ne (tgt := 41) dX11_cuts_36 (by decide) (fun hc14 => ?_) (fun hc14 => ?_)
        · have h := ite_f hc14 h
          refine wp_aload_n dX11_cuts_41 rfl rfl ?_
          refine wp_iload_n dX11_cuts_42 rfl rfl ?_
          refine wp_iload_n dX11_cuts_43 rfl rfl ?_
          refine wp_iconst (v := (-1)) dX11_cuts_44 (by decide) ?_
          obtain ⟨r15, hF16, h⟩ := obi h
          refine wp_callVi (ci := 11) (As := [.int a2, .int a3, .int (-1)]) dX11_cuts_45 lbX11_doesReach mlX11_384 imX11_doesReach seX11_doesReach vc11 (ct_X11_doesReach N 1 (Nat.le_refl _) hS  hF16) rfl rfl (Nat.le_trans (by decide) hd) (sk310 hS) (sn310 hS) (Nat.le_of_ble_eq_true rfl) (fun _ => ?_)
          refine wp_if_ne (tgt := 53) dX11_cuts_48 (by decide) (fun hc17 => ?_) (fun hc17 => ?_)
          · have h := ite_f hc17 h
            refine wp_iconst (v := 0) dX11_cuts_53 (by decide) ?_
            refine wp_istore_n (ls' := [(3, .int 0), (0, .ref 310), (1, .int a2), (2, .int a3)]) dX11_cuts_54 rfl (Nat.le_of_ble_eq_true rfl) rfl ?_
            refine wp_iconst (v := 0) dX11_cuts_55 (by decide) ?_
            refine wp_istore (ls' := [(4, .int 0), (3, .int 0), (0, .ref 310), (1, .int a2), (2, .int a3)]) dX11_cuts_56 (Nat.le_of_ble_eq_true rfl) rfl ?_
            obtain ⟨y25, hL926, h⟩ := obi h
            refine wp_pick (ks := [2, 3, 4, 1, 0]) rfl (wX11_cuts_58 N d hd hS  a2 a3 I12 N 0 0 _ hL926 (fun _ e27 => ?_))
            cases e27
            refine wp_iload_n dX11_cuts_105 rfl rfl ?_
            exact wp_iret dX11_cuts_106 rfl (by obtain rfl := sji h; exact ⟨rfl, rfl, rfl, rfl⟩)
          · have h := ite_t hc17 h
            refine wp_iconst (v := 0) dX11_cuts_51 (by decide) ?_
            exact wp_iret dX11_cuts_52 rfl (by obtain rfl := sji h; exact ⟨rfl, rfl, rfl, rfl⟩)
        · have h := ite_t hc14 h
          refine wp_iconst (v := 0) dX11_cuts_39 (by decide) ?_
          exact wp_iret dX11_cuts_40 rfl (by obtain rfl := sji h; exact ⟨rfl, rfl, rfl, rfl⟩)
      clear h
      have h := hh28
      clear hh28
      refine wp_icmp_eq (tgt := 31) dX11_cuts_24 (by decide) (fun hc10 => ?_) (fun hc10 => ?_)
      · have h := ite_t hc10 h
        refine wp_iconst (v := 0) dX11_cuts_31 (by decide) ?_
        cases h
        exact wp_pick (ks := [0, 1, 2]) rfl hJ
      · have h := ite_f hc10 h
        refine wp_iconst (v := 1) dX11_cuts_27 (by decide) ?_
        refine wp_goto (tgt := 32) dX11_cuts_28 (by decide) ?_
        cases h
        exact wp_pick (ks := [0, 1, 2]) rfl hJ
