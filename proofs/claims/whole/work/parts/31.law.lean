/-! the law: its script is a cell outside; each case over a step of the two systems -/
def hLw (L : Nat) (xs : Nat → Int32) : gH := fun s al0 A _ => va_X (al0 (gSB + 300)) L xs s s.heap ∧ al0 (gSB + 300) < s.heap.size ∧ ¬ A (al0 (gSB + 300)) ∧ va_Nc xnA xnN s
def QL : gO → gS → gI → gJ → Prop := fun o _ _ _ => o = .inl (some (.int 1))
section LawRules
variable {own : String} {cc : ByteArray} {nL : Nat} {ret : Option FieldType} {hh : List ExceptionTableEntry} {d rc rs pc : Nat} {ls : List (Nat × Value)} {st : List Value} {S : gS} {I : gI} {J : gJ} {Q : gO → gS → gI → gJ → Prop} {L : Nat} {xs : Nat → Int32}
theorem wp_sld {i : Int32} (hd : decode cc pc = .ok (.iaload, 1)) (hin : vp_in i L) (kk : Wp own cc nL ret hh (hLw L xs) d rc rs (pc + 1) ls (.int (xs i.toNatClampNeg) :: st) S I J Q) : Wp own cc nL ret hh (hLw L xs) d rc rs pc ls (.int i :: .ref (gSB + 300) :: st) S I J Q := fun p l e R s m args below meth c H locs cells slots A al cy D mc ms al0 n0 hC hi hD hv lsr hl => by
  have e9 : al (gSB + 300) = al0 (gSB + 300) := hD.2.2.2.2.1 _ (Or.inr (Nat.le_add_right _ _))
  have K := kk p l e R s m args below meth c H locs cells slots A al cy D mc ms al0 n0 hC hi hD ⟨hv.1, trivial, hv.2.2.2⟩ lsr hl
  show W p l e R s m args below meth c H locs cells slots _ (F0 m pc lsr (.int i :: .ref (al (gSB + 300)) :: st.map (tv al)))
  rw [e9]
  exact va_sld hC.1.1 hC.1.2.1 hi.1 hi.2.1 hi.2.2.1 hD.2.2.1 hin hd K
theorem wp_slen (hd : decode cc pc = .ok (.arraylength, 1)) (kk : Wp own cc nL ret hh (hLw L xs) d rc rs (pc + 1) ls (.int (Int32.ofNat L) :: st) S I J Q) : Wp own cc nL ret hh (hLw L xs) d rc rs pc ls (.ref (gSB + 300) :: st) S I J Q := fun p l e R s m args below meth c H locs cells slots A al cy D mc ms al0 n0 hC hi hD hv lsr hl => by
  have e9 : al (gSB + 300) = al0 (gSB + 300) := hD.2.2.2.2.1 _ (Or.inr (Nat.le_add_right _ _))
  have K := kk p l e R s m args below meth c H locs cells slots A al cy D mc ms al0 n0 hC hi hD ⟨hv.1, trivial, hv.2.2⟩ lsr hl
  show W p l e R s m args below meth c H locs cells slots _ (F0 m pc lsr (.ref (al (gSB + 300)) :: st.map (tv al)))
  rw [e9]
  exact va_slen hC.1.1 hC.1.2.1 hi.1 hi.2.1 hi.2.2.1 hD.2.2.1 hd K
end LawRules
theorem sx {i L : Nat} (j : Nat) (hj : j < 6) (hi : i + 6 ≤ L) (hL : L ≤ 3072) : vp_in (Int32.ofNat i + Int32.ofNat j) L := by
  rw [← Int32.ofNat_add]
  exact ofN_in (by omega) (by omega)
theorem lgc {x y : Int64} (h : x = y) : lg_cmp x y = 0 := by subst h; simp [lg_cmp]
theorem kl1 {rv : Int32 ⊕ String} (h : kL1 rv = 0) : ∃ v, rv = .inl v := by
  cases rv with
  | inl v => exact ⟨v, rfl⟩
  | inr E => exact absurd h (show ¬ (1 : Int32) = 0 by decide)
theorem kl2 {rv : Int32 ⊕ String} (h : kL2 rv = 0) : ∃ v, rv = .inl v := by
  cases rv with
  | inl v => exact ⟨v, rfl⟩
  | inr E =>
    have h' : (if E = xnN then (1 : Int32) else 2) = 0 := h
    by_cases he : E = xnN
    · rw [if_pos he] at h'; exact absurd h' (by decide)
    · rw [if_neg he] at h'; exact absurd h' (by decide)
theorem jL_at {v : Int32} {J : gJ} : jL (.inl v) J 337 0 = v.toInt64 := by simp [jL, updJ]
theorem jB_at {v : Int32} {J : gJ} : jB (.inl v) J 337 0 = if v = 0 then 0 else 1 := by simp [jB, updJ]
theorem tm_thrown {I : gI} : mX11_thrown I = some (I 310 0) := rfl
theorem wp_seeb {own : String} {cc : ByteArray} {nL : Nat} {ret : Option FieldType} {hh : List ExceptionTableEntry} {isI : gH} {d rc rs pc : Nat} {ls : List (Nat × Value)} {st : List Value} {S : gS} {I : gI} {J : gJ} {Q : gO → gS → gI → gJ → Prop} {t1 t2 : Nat} {x b5 : Int32} {off o2 : Int}
    (h0 : decode cc pc = .ok (.ifCond .eq off, 3)) (e0 : (pc : Int) + off = (t1 : Int)) (h3 : decode cc (pc + 3) = .ok (.iconst 1, 1)) (h4 : decode cc (pc + 4) = .ok (.goto o2, 3)) (e4 : ((pc + 4 : Nat) : Int) + o2 = (t2 : Int)) (h7 : decode cc t1 = .ok (.iconst 0, 1)) (e7 : t1 + 1 = t2) (hb : b5 = if x = 0 then 0 else 1)
    (kk : Wp own cc nL ret hh isI d rc rs t2 ls (.int b5 :: st) S I J Q) : Wp own cc nL ret hh isI d rc rs pc ls (.int x :: st) S I J Q := by
  refine wp_if_eq (tgt := t1) h0 e0 (fun hc => ?_) (fun hc => ?_)
  · rw [if_pos hc] at hb
    subst hb e7
    exact wp_iconst (v := 0) h7 (by decide) kk
  · rw [if_neg hc] at hb
    subst hb
    exact wp_iconst (v := 1) h3 (by decide) (wp_goto (tgt := t2) h4 e4 kk)
def St_feed (N : Nat) (Inv : Nat → gI → Prop) : Prop := ∀ (c : Nat) (I : gI) (J : gJ) (a1 a2 a3 a4 a5 : Int32), c < 512 → Inv c I → ∃ (rr : Int32) (I1 : gI) (I2 : gI), mX10_feed N a1 a2 a3 a4 a5 I = some (rr, I1) ∧ mX11_feed N a1 a2 a3 a4 a5 I1 = some (rr, I2) ∧ Inv (c + 1) I2
set_option maxHeartbeats 4000000 in
set_option maxRecDepth 100000 in
theorem lc_feed {N L : Nat} {xs : Nat → Int32} {Inv : Nat → gI → Prop} (hst : St_feed N Inv) (d : Nat) (hd : 40 ≤ d) {rc rs i c : Nat} {S : gS} {I : gI} {J : gJ} (hi : i + 6 ≤ L) (hL : L ≤ 3072) (hS : Sh S) (hc : c < 512) (hI : Inv c I)
    (kk : ∀ S' I' J', Sh S' → Inv (c + 1) I' → Wp RL cL_law 7 (some .boolean) [] (hLw L xs) d rc rs 2133 [(0, .ref (gSB + 300)), (1, .ref 0), (2, .ref 310), (3, .ref 337), (4, .int (Int32.ofNat i))] [] S' I' J' QL) : Wp RL cL_law 7 (some .boolean) [] (hLw L xs) d rc rs 192 [(0, .ref (gSB + 300)), (1, .ref 0), (2, .ref 310), (3, .ref 337), (4, .int (Int32.ofNat i))] [] S I J QL := by
  obtain ⟨rr, I1, I2, h1, h2, hI2⟩ := hst c I J (xs (Int32.ofNat i + 1).toNatClampNeg) (xs (Int32.ofNat i + 2).toNatClampNeg) (xs (Int32.ofNat i + 3).toNatClampNeg) (xs (Int32.ofNat i + 4).toNatClampNeg) (xs (Int32.ofNat i + 5).toNatClampNeg) hc hI
  refine wp_aload_n dL_law_192 rfl rfl ?_
  refine wp_aload_n dL_law_193 rfl rfl ?_
  refine wp_iload dL_law_194 rfl ?_
  refine wp_iconst (v := 1) dL_law_196 (by decide) ?_
  refine wp_iadd dL_law_197 ?_
  refine wp_sld dL_law_198 (sx 1 (by decide) hi hL) ?_
  refine wp_aload_n dL_law_199 rfl rfl ?_
  refine wp_iload dL_law_200 rfl ?_
  refine wp_iconst (v := 2) dL_law_202 (by decide) ?_
  refine wp_iadd dL_law_203 ?_
  refine wp_sld dL_law_204 (sx 2 (by decide) hi hL) ?_
  refine wp_aload_n dL_law_205 rfl rfl ?_
  refine wp_iload dL_law_206 rfl ?_
  refine wp_iconst (v := 3) dL_law_208 (by decide) ?_
  refine wp_iadd dL_law_209 ?_
  refine wp_sld dL_law_210 (sx 3 (by decide) hi hL) ?_
  refine wp_aload_n dL_law_211 rfl rfl ?_
  refine wp_iload dL_law_212 rfl ?_
  refine wp_iconst (v := 4) dL_law_214 (by decide) ?_
  refine wp_iadd dL_law_215 ?_
  refine wp_sld dL_law_216 (sx 4 (by decide) hi hL) ?_
  refine wp_aload_n dL_law_217 rfl rfl ?_
  refine wp_iload dL_law_218 rfl ?_
  refine wp_iconst (v := 5) dL_law_220 (by decide) ?_
  refine wp_iadd dL_law_221 ?_
  refine wp_sld dL_law_222 (sx 5 (by decide) hi hL) ?_
  refine wp_callVi (ci := 10) (As := [.int (xs (Int32.ofNat i + 1).toNatClampNeg), .int (xs (Int32.ofNat i + 2).toNatClampNeg), .int (xs (Int32.ofNat i + 3).toNatClampNeg), .int (xs (Int32.ofNat i + 4).toNatClampNeg), .int (xs (Int32.ofNat i + 5).toNatClampNeg)]) dL_law_223 lbX10_feed mlL_103 imX10_feed seX10_feed vc10 (ct_X10_feed N 1 (Nat.le_refl _) hS h1) rfl rfl (Nat.le_trans (by decide) hd) (sk0 hS) (sn0 hS) (Nat.le_of_ble_eq_true rfl) (fun _ => ?_)
  refine wp_aload_n dL_law_226 rfl rfl ?_
  refine wp_aload_n dL_law_227 rfl rfl ?_
  refine wp_iload dL_law_228 rfl ?_
  refine wp_iconst (v := 1) dL_law_230 (by decide) ?_
  refine wp_iadd dL_law_231 ?_
  refine wp_sld dL_law_232 (sx 1 (by decide) hi hL) ?_
  refine wp_aload_n dL_law_233 rfl rfl ?_
  refine wp_iload dL_law_234 rfl ?_
  refine wp_iconst (v := 2) dL_law_236 (by decide) ?_
  refine wp_iadd dL_law_237 ?_
  refine wp_sld dL_law_238 (sx 2 (by decide) hi hL) ?_
  refine wp_aload_n dL_law_239 rfl rfl ?_
  refine wp_iload dL_law_240 rfl ?_
  refine wp_iconst (v := 3) dL_law_242 (by decide) ?_
  refine wp_iadd dL_law_243 ?_
  refine wp_sld dL_law_244 (sx 3 (by decide) hi hL) ?_
  refine wp_aload_n dL_law_245 rfl rfl ?_
  refine wp_iload dL_law_246 rfl ?_
  refine wp_iconst (v := 4) dL_law_248 (by decide) ?_
  refine wp_iadd dL_law_249 ?_
  refine wp_sld dL_law_250 (sx 4 (by decide) hi hL) ?_
  refine wp_aload_n dL_law_251 rfl rfl ?_
  refine wp_iload dL_law_252 rfl ?_
  refine wp_iconst (v := 5) dL_law_254 (by decide) ?_
  refine wp_iadd dL_law_255 ?_
  refine wp_sld dL_law_256 (sx 5 (by decide) hi hL) ?_
  refine wp_callVi (ci := 11) (As := [.int (xs (Int32.ofNat i + 1).toNatClampNeg), .int (xs (Int32.ofNat i + 2).toNatClampNeg), .int (xs (Int32.ofNat i + 3).toNatClampNeg), .int (xs (Int32.ofNat i + 4).toNatClampNeg), .int (xs (Int32.ofNat i + 5).toNatClampNeg)]) dL_law_257 lbX11_feed mlL_107 imX11_feed seX11_feed vc11 (ct_X11_feed N 1 (Nat.le_refl _) hS h2) rfl rfl (Nat.le_trans (by decide) hd) (sk310 hS) (sn310 hS) (Nat.le_of_ble_eq_true rfl) (fun _ => ?_)
  refine wp_icmp_eq (tgt := 2133) dL_law_260 (by decide) (fun _ => ?_) (fun hc => absurd rfl hc)
  exact kk _ _ _ hS hI2
def St_network (N : Nat) (Inv : Nat → gI → Prop) : Prop := ∀ (c : Nat) (I : gI) (J : gJ) (a1 : Int32), c < 512 → Inv c I → ∃ (rv : Int32 ⊕ String) (I1 : gI) (bb : Int32) (I2 : gI) (J2 : gJ), mX10_network N a1 I = some (rv, I1) ∧ (∀ E, rv = .inr E → E = xnA) ∧ mX11_network N a1 I1 (jL rv J) = some (bb, I2, J2) ∧ I2 310 0 = kL1 rv ∧ (∀ v, rv = .inl v → v = bb) ∧ J2 337 0 = (jL rv J) 337 0 ∧ Inv (c + 1) I2
set_option maxHeartbeats 4000000 in
set_option maxRecDepth 100000 in
theorem lc_network {N L : Nat} {xs : Nat → Int32} {Inv : Nat → gI → Prop} (hst : St_network N Inv) (d : Nat) (hd : 40 ≤ d) {rc rs i c : Nat} {S : gS} {I : gI} {J : gJ} (hi : i + 6 ≤ L) (hL : L ≤ 3072) (hS : Sh S) (hc : c < 512) (hI : Inv c I)
    (kk : ∀ S' I' J', Sh S' → Inv (c + 1) I' → Wp RL cL_law 7 (some .boolean) [] (hLw L xs) d rc rs 2133 [(0, .ref (gSB + 300)), (1, .ref 0), (2, .ref 310), (3, .ref 337), (4, .int (Int32.ofNat i))] [] S' I' J' QL) : Wp RL cL_law 7 (some .boolean) [] (hLw L xs) d (rc + 1) (rs + 6) 265 [(0, .ref (gSB + 300)), (1, .ref 0), (2, .ref 310), (3, .ref 337), (4, .int (Int32.ofNat i))] [] S I J QL := by
  obtain ⟨rv, I1, bb, I2, J2, h1, hE, h2, ht, hv, hJ9, hI2⟩ := hst c I J (xs (Int32.ofNat i + 1).toNatClampNeg) hc hI
  have hS1 : Sh (oS rv (updR S 28 0 (some 1)) S) := by cases rv <;> first | exact Sh_bytes hS | exact hS
  refine wp_aload_n dL_law_265 rfl rfl ?_
  refine wp_aload_n dL_law_266 rfl rfl ?_
  refine wp_iload dL_law_267 rfl ?_
  refine wp_iconst (v := 1) dL_law_269 (by decide) ?_
  refine wp_iadd dL_law_270 ?_
  refine wp_sld dL_law_271 (sx 1 (by decide) hi hL) ?_
  refine wp_aload_n dL_law_272 rfl rfl ?_
  refine wp_callSW (As := [.ref 0, .int (xs (Int32.ofNat i + 1).toNatClampNeg), .ref 337]) dL_law_273 lwL_network mlL_108 smL_network (ct_L_network N 11 (Nat.le_refl _) hS h1 hE) rfl rfl (Nat.le_trans (by decide) hd) (Nat.le_of_ble_eq_true rfl) (fun _ _ _ _ h => h.2.2.2) (fun _ => ?_)
  show Wp RL cL_law 7 (some .boolean) [] (hLw L xs) d rc rs 276 [(0, .ref (gSB + 300)), (1, .ref 0), (2, .ref 310), (3, .ref 337), (4, .int (Int32.ofNat i))] [.int (kL1 rv)] (oS rv (updR S 28 0 (some 1)) S) I1 (jL rv J) QL
  generalize (oS rv (updR S 28 0 (some 1)) S) = S1 at hS1 ⊢
  refine wp_istore (ls' := [(5, .int (kL1 rv)), (0, .ref (gSB + 300)), (1, .ref 0), (2, .ref 310), (3, .ref 337), (4, .int (Int32.ofNat i))]) dL_law_276 (Nat.le_of_ble_eq_true rfl) rfl ?_
  refine wp_aload_n dL_law_278 rfl rfl ?_
  refine wp_aload_n dL_law_279 rfl rfl ?_
  refine wp_iload dL_law_280 rfl ?_
  refine wp_iconst (v := 1) dL_law_282 (by decide) ?_
  refine wp_iadd dL_law_283 ?_
  refine wp_sld dL_law_284 (sx 1 (by decide) hi hL) ?_
  refine wp_callVi (ci := 11) (As := [.int (xs (Int32.ofNat i + 1).toNatClampNeg)]) dL_law_285 lbX11_network mlL_113 imX11_network seX11_network vc11 (ct_X11_network N 5 (Nat.le_refl _) hS1 h2) rfl rfl (Nat.le_trans (by decide) hd) (sk310 hS1) (sn310 hS1) (Nat.le_of_ble_eq_true rfl) (fun _ => ?_)
  show Wp RL cL_law 7 (some .boolean) [] (hLw L xs) d rc rs 288 [(5, .int (kL1 rv)), (0, .ref (gSB + 300)), (1, .ref 0), (2, .ref 310), (3, .ref 337), (4, .int (Int32.ofNat i))] [.int bb] S1 I2 J2 QL
  refine wp_istore (ls' := [(6, .int bb), (5, .int (kL1 rv)), (0, .ref (gSB + 300)), (1, .ref 0), (2, .ref 310), (3, .ref 337), (4, .int (Int32.ofNat i))]) dL_law_288 (Nat.le_of_ble_eq_true rfl) rfl ?_
  refine wp_aload_n dL_law_290 rfl rfl ?_
  refine wp_callVi (ci := 11) (As := []) dL_law_291 lbX11_thrown mlL_114 imX11_thrown seX11_thrown vc11 (ct_X11_thrown 0 (Nat.le_refl _) hS1 tm_thrown) rfl rfl (Nat.le_trans (by decide) hd) (sk310 hS1) (sn310 hS1) (Nat.le_of_ble_eq_true rfl) (fun _ => ?_)
  refine wp_iload dL_law_294 rfl ?_
  refine wp_icmp_eq (tgt := 301) dL_law_296 (by decide) (fun _ => ?_) (fun hc => absurd ht hc)
  refine wp_iload dL_law_301 rfl ?_
  refine wp_if_ne (tgt := 318) dL_law_303 (by decide) (fun _ => ?_) (fun hc => ?_)
  · refine wp_goto (tgt := 2133) dL_law_318 (by decide) ?_
    exact wp_pick (ks := [2, 3, 4, 5, 6]) rfl (kk _ _ _ hS1 hI2)
  · have hk0 : kL1 rv = 0 := hc
    obtain ⟨v, rfl⟩ := kl1 hk0
    have hvb := hv v rfl
    refine wp_aload_n dL_law_306 rfl rfl ?_
    refine wp_iconst (v := 0) dL_law_307 (by decide) ?_
    refine wp_lald (n := 1) dL_law_308 (sk337 hS1) (sn337 hS1) (inb_in (by decide)) ?_
    refine wp_iload dL_law_309 rfl ?_
    refine wp_i2l dL_law_311 ?_
    refine wp_lcmp dL_law_312 ?_
    refine wp_if_eq (tgt := 318) dL_law_313 (by decide) (fun _ => ?_) (fun hc9 => absurd (lgc (by show J2 337 0 = bb.toInt64; rw [hJ9, jL_at, hvb])) hc9)
    refine wp_goto (tgt := 2133) dL_law_318 (by decide) ?_
    exact wp_pick (ks := [2, 3, 4, 5, 6]) rfl (kk _ _ _ hS1 hI2)
def St_fault (N : Nat) (Inv : Nat → gI → Prop) : Prop := ∀ (c : Nat) (I : gI) (J : gJ) , c < 512 → Inv c I → ∃ (rr : Int32) (I2 : gI), mX10_fault I = some rr ∧ mX11_fault I = some (rr, I2) ∧ Inv (c + 1) I2
set_option maxHeartbeats 4000000 in
set_option maxRecDepth 100000 in
theorem lc_fault {N L : Nat} {xs : Nat → Int32} {Inv : Nat → gI → Prop} (hst : St_fault N Inv) (d : Nat) (hd : 40 ≤ d) {rc rs i c : Nat} {S : gS} {I : gI} {J : gJ} (hi : i + 6 ≤ L) (hL : L ≤ 3072) (hS : Sh S) (hc : c < 512) (hI : Inv c I)
    (kk : ∀ S' I' J', Sh S' → Inv (c + 1) I' → Wp RL cL_law 7 (some .boolean) [] (hLw L xs) d rc rs 2133 [(0, .ref (gSB + 300)), (1, .ref 0), (2, .ref 310), (3, .ref 337), (4, .int (Int32.ofNat i))] [] S' I' J' QL) : Wp RL cL_law 7 (some .boolean) [] (hLw L xs) d rc rs 321 [(0, .ref (gSB + 300)), (1, .ref 0), (2, .ref 310), (3, .ref 337), (4, .int (Int32.ofNat i))] [] S I J QL := by
  obtain ⟨rr, I2, h1, h2, hI2⟩ := hst c I J  hc hI
  refine wp_aload_n dL_law_321 rfl rfl ?_
  refine wp_callVi (ci := 10) (As := []) dL_law_322 lbX10_fault mlL_118 imX10_fault seX10_fault vc10 (ct_X10_fault 0 (Nat.le_refl _) hS h1) rfl rfl (Nat.le_trans (by decide) hd) (sk0 hS) (sn0 hS) (Nat.le_of_ble_eq_true rfl) (fun _ => ?_)
  refine wp_aload_n dL_law_325 rfl rfl ?_
  refine wp_callVi (ci := 11) (As := []) dL_law_326 lbX11_fault mlL_121 imX11_fault seX11_fault vc11 (ct_X11_fault 0 (Nat.le_refl _) hS h2) rfl rfl (Nat.le_trans (by decide) hd) (sk310 hS) (sn310 hS) (Nat.le_of_ble_eq_true rfl) (fun _ => ?_)
  refine wp_icmp_eq (tgt := 2133) dL_law_329 (by decide) (fun _ => ?_) (fun hc => absurd rfl hc)
  exact kk _ _ _ hS hI2
def St_count (N : Nat) (Inv : Nat → gI → Prop) : Prop := ∀ (c : Nat) (I : gI) (J : gJ) (a1 : Int32), c < 512 → Inv c I → ∃ (rv : Int32 ⊕ String) (I1 : gI) (bb : Int32) (I2 : gI), mX10_count N a1 I = some (rv, I1) ∧ (∀ E, rv = .inr E → E = xnN) ∧ mX11_count N a1 I1 = some (bb, I2) ∧ I2 310 0 = kL1 rv ∧ (∀ v, rv = .inl v → v = bb) ∧ Inv (c + 1) I2
set_option maxHeartbeats 4000000 in
set_option maxRecDepth 100000 in
theorem lc_count {N L : Nat} {xs : Nat → Int32} {Inv : Nat → gI → Prop} (hst : St_count N Inv) (d : Nat) (hd : 40 ≤ d) {rc rs i c : Nat} {S : gS} {I : gI} {J : gJ} (hi : i + 6 ≤ L) (hL : L ≤ 3072) (hS : Sh S) (hc : c < 512) (hI : Inv c I)
    (kk : ∀ S' I' J', Sh S' → Inv (c + 1) I' → Wp RL cL_law 7 (some .boolean) [] (hLw L xs) d rc rs 2133 [(0, .ref (gSB + 300)), (1, .ref 0), (2, .ref 310), (3, .ref 337), (4, .int (Int32.ofNat i))] [] S' I' J' QL) : Wp RL cL_law 7 (some .boolean) [] (hLw L xs) d (rc + 1) (rs + 6) 334 [(0, .ref (gSB + 300)), (1, .ref 0), (2, .ref 310), (3, .ref 337), (4, .int (Int32.ofNat i))] [] S I J QL := by
  obtain ⟨rv, I1, bb, I2, h1, hE, h2, ht, hv, hI2⟩ := hst c I J (xs (Int32.ofNat i + 1).toNatClampNeg) hc hI
  refine wp_aload_n dL_law_334 rfl rfl ?_
  refine wp_aload_n dL_law_335 rfl rfl ?_
  refine wp_iload dL_law_336 rfl ?_
  refine wp_iconst (v := 1) dL_law_338 (by decide) ?_
  refine wp_iadd dL_law_339 ?_
  refine wp_sld dL_law_340 (sx 1 (by decide) hi hL) ?_
  refine wp_aload_n dL_law_341 rfl rfl ?_
  refine wp_callSW (As := [.ref 0, .int (xs (Int32.ofNat i + 1).toNatClampNeg), .ref 337]) dL_law_342 lwL_count mlL_122 smL_count (ct_L_count N 10 (Nat.le_refl _) hS h1 hE) rfl rfl (Nat.le_trans (by decide) hd) (Nat.le_of_ble_eq_true rfl) (fun _ _ _ _ h => h.2.2.2) (fun _ => ?_)
  show Wp RL cL_law 7 (some .boolean) [] (hLw L xs) d rc rs 345 [(0, .ref (gSB + 300)), (1, .ref 0), (2, .ref 310), (3, .ref 337), (4, .int (Int32.ofNat i))] [.int (kL1 rv)] S I1 (jL rv J) QL
  refine wp_istore (ls' := [(5, .int (kL1 rv)), (0, .ref (gSB + 300)), (1, .ref 0), (2, .ref 310), (3, .ref 337), (4, .int (Int32.ofNat i))]) dL_law_345 (Nat.le_of_ble_eq_true rfl) rfl ?_
  refine wp_aload_n dL_law_347 rfl rfl ?_
  refine wp_aload_n dL_law_348 rfl rfl ?_
  refine wp_iload dL_law_349 rfl ?_
  refine wp_iconst (v := 1) dL_law_351 (by decide) ?_
  refine wp_iadd dL_law_352 ?_
  refine wp_sld dL_law_353 (sx 1 (by decide) hi hL) ?_
  refine wp_callVi (ci := 11) (As := [.int (xs (Int32.ofNat i + 1).toNatClampNeg)]) dL_law_354 lbX11_count mlL_124 imX11_count seX11_count vc11 (ct_X11_count N 9 (Nat.le_refl _) hS h2) rfl rfl (Nat.le_trans (by decide) hd) (sk310 hS) (sn310 hS) (Nat.le_of_ble_eq_true rfl) (fun _ => ?_)
  show Wp RL cL_law 7 (some .boolean) [] (hLw L xs) d rc rs 357 [(5, .int (kL1 rv)), (0, .ref (gSB + 300)), (1, .ref 0), (2, .ref 310), (3, .ref 337), (4, .int (Int32.ofNat i))] [.int bb] S I2 (jL rv J) QL
  refine wp_istore (ls' := [(6, .int bb), (5, .int (kL1 rv)), (0, .ref (gSB + 300)), (1, .ref 0), (2, .ref 310), (3, .ref 337), (4, .int (Int32.ofNat i))]) dL_law_357 (Nat.le_of_ble_eq_true rfl) rfl ?_
  refine wp_aload_n dL_law_359 rfl rfl ?_
  refine wp_callVi (ci := 11) (As := []) dL_law_360 lbX11_thrown mlL_114 imX11_thrown seX11_thrown vc11 (ct_X11_thrown 0 (Nat.le_refl _) hS tm_thrown) rfl rfl (Nat.le_trans (by decide) hd) (sk310 hS) (sn310 hS) (Nat.le_of_ble_eq_true rfl) (fun _ => ?_)
  refine wp_iload dL_law_363 rfl ?_
  refine wp_icmp_eq (tgt := 370) dL_law_365 (by decide) (fun _ => ?_) (fun hc => absurd ht hc)
  refine wp_iload dL_law_370 rfl ?_
  refine wp_if_ne (tgt := 387) dL_law_372 (by decide) (fun _ => ?_) (fun hc => ?_)
  · refine wp_goto (tgt := 2133) dL_law_387 (by decide) ?_
    exact wp_pick (ks := [2, 3, 4, 5, 6]) rfl (kk _ _ _ hS hI2)
  · have hk0 : kL1 rv = 0 := hc
    obtain ⟨v, rfl⟩ := kl1 hk0
    have hvb := hv v rfl
    refine wp_aload_n dL_law_375 rfl rfl ?_
    refine wp_iconst (v := 0) dL_law_376 (by decide) ?_
    refine wp_lald (n := 1) dL_law_377 (sk337 hS) (sn337 hS) (inb_in (by decide)) ?_
    refine wp_iload dL_law_378 rfl ?_
    refine wp_i2l dL_law_380 ?_
    refine wp_lcmp dL_law_381 ?_
    refine wp_if_eq (tgt := 387) dL_law_382 (by decide) (fun _ => ?_) (fun hc9 => absurd (lgc (by show (jL (.inl v) J) 337 0 = bb.toInt64; rw [jL_at, hvb])) hc9)
    refine wp_goto (tgt := 2133) dL_law_387 (by decide) ?_
    exact wp_pick (ks := [2, 3, 4, 5, 6]) rfl (kk _ _ _ hS hI2)
def St_link (N : Nat) (Inv : Nat → gI → Prop) : Prop := ∀ (c : Nat) (I : gI) (J : gJ) (a1 a2 : Int32), c < 512 → Inv c I → ∃ (rv : Int32 ⊕ String) (bb : Int32) (I2 : gI), mX10_link N a1 a2 I = some rv ∧ (∀ E, rv = .inr E → E = xnN) ∧ mX11_link N a1 a2 I = some (bb, I2) ∧ I2 310 0 = kL1 rv ∧ (∀ v, rv = .inl v → v = bb) ∧ Inv (c + 1) I2
set_option maxHeartbeats 4000000 in
set_option maxRecDepth 100000 in
theorem lc_link {N L : Nat} {xs : Nat → Int32} {Inv : Nat → gI → Prop} (hst : St_link N Inv) (d : Nat) (hd : 40 ≤ d) {rc rs i c : Nat} {S : gS} {I : gI} {J : gJ} (hi : i + 6 ≤ L) (hL : L ≤ 3072) (hS : Sh S) (hc : c < 512) (hI : Inv c I)
    (kk : ∀ S' I' J', Sh S' → Inv (c + 1) I' → Wp RL cL_law 7 (some .boolean) [] (hLw L xs) d rc rs 2133 [(0, .ref (gSB + 300)), (1, .ref 0), (2, .ref 310), (3, .ref 337), (4, .int (Int32.ofNat i))] [] S' I' J' QL) : Wp RL cL_law 7 (some .boolean) [] (hLw L xs) d (rc + 2) (rs + 12) 390 [(0, .ref (gSB + 300)), (1, .ref 0), (2, .ref 310), (3, .ref 337), (4, .int (Int32.ofNat i))] [] S I J QL := by
  obtain ⟨rv, bb, I2, h1, hE, h2, ht, hv, hI2⟩ := hst c I J (xs (Int32.ofNat i + 1).toNatClampNeg) (xs (Int32.ofNat i + 2).toNatClampNeg) hc hI
  refine wp_aload_n dL_law_390 rfl rfl ?_
  refine wp_aload_n dL_law_391 rfl rfl ?_
  refine wp_iload dL_law_392 rfl ?_
  refine wp_iconst (v := 1) dL_law_394 (by decide) ?_
  refine wp_iadd dL_law_395 ?_
  refine wp_sld dL_law_396 (sx 1 (by decide) hi hL) ?_
  refine wp_aload_n dL_law_397 rfl rfl ?_
  refine wp_iload dL_law_398 rfl ?_
  refine wp_iconst (v := 2) dL_law_400 (by decide) ?_
  refine wp_iadd dL_law_401 ?_
  refine wp_sld dL_law_402 (sx 2 (by decide) hi hL) ?_
  refine wp_aload_n dL_law_403 rfl rfl ?_
  refine wp_callSW (As := [.ref 0, .int (xs (Int32.ofNat i + 1).toNatClampNeg), .int (xs (Int32.ofNat i + 2).toNatClampNeg), .ref 337]) dL_law_404 lwL_link mlL_125 smL_link (ct_L_link N 11 (Nat.le_refl _) hS h1 hE) rfl rfl (Nat.le_trans (by decide) hd) (Nat.le_of_ble_eq_true rfl) (fun _ _ _ _ h => h.2.2.2) (fun _ => ?_)
  show Wp RL cL_law 7 (some .boolean) [] (hLw L xs) d rc rs 407 [(0, .ref (gSB + 300)), (1, .ref 0), (2, .ref 310), (3, .ref 337), (4, .int (Int32.ofNat i))] [.int (kL1 rv)] S I (jL rv J) QL
  refine wp_istore (ls' := [(5, .int (kL1 rv)), (0, .ref (gSB + 300)), (1, .ref 0), (2, .ref 310), (3, .ref 337), (4, .int (Int32.ofNat i))]) dL_law_407 (Nat.le_of_ble_eq_true rfl) rfl ?_
  refine wp_aload_n dL_law_409 rfl rfl ?_
  refine wp_aload_n dL_law_410 rfl rfl ?_
  refine wp_iload dL_law_411 rfl ?_
  refine wp_iconst (v := 1) dL_law_413 (by decide) ?_
  refine wp_iadd dL_law_414 ?_
  refine wp_sld dL_law_415 (sx 1 (by decide) hi hL) ?_
  refine wp_aload_n dL_law_416 rfl rfl ?_
  refine wp_iload dL_law_417 rfl ?_
  refine wp_iconst (v := 2) dL_law_419 (by decide) ?_
  refine wp_iadd dL_law_420 ?_
  refine wp_sld dL_law_421 (sx 2 (by decide) hi hL) ?_
  refine wp_callVi (ci := 11) (As := [.int (xs (Int32.ofNat i + 1).toNatClampNeg), .int (xs (Int32.ofNat i + 2).toNatClampNeg)]) dL_law_422 lbX11_link mlL_128 imX11_link seX11_link vc11 (ct_X11_link N 3 (Nat.le_refl _) hS h2) rfl rfl (Nat.le_trans (by decide) hd) (sk310 hS) (sn310 hS) (Nat.le_of_ble_eq_true rfl) (fun _ => ?_)
  show Wp RL cL_law 7 (some .boolean) [] (hLw L xs) d rc rs 425 [(5, .int (kL1 rv)), (0, .ref (gSB + 300)), (1, .ref 0), (2, .ref 310), (3, .ref 337), (4, .int (Int32.ofNat i))] [.int bb] S I2 (jL rv J) QL
  refine wp_istore (ls' := [(6, .int bb), (5, .int (kL1 rv)), (0, .ref (gSB + 300)), (1, .ref 0), (2, .ref 310), (3, .ref 337), (4, .int (Int32.ofNat i))]) dL_law_425 (Nat.le_of_ble_eq_true rfl) rfl ?_
  refine wp_aload_n dL_law_427 rfl rfl ?_
  refine wp_callVi (ci := 11) (As := []) dL_law_428 lbX11_thrown mlL_114 imX11_thrown seX11_thrown vc11 (ct_X11_thrown 0 (Nat.le_refl _) hS tm_thrown) rfl rfl (Nat.le_trans (by decide) hd) (sk310 hS) (sn310 hS) (Nat.le_of_ble_eq_true rfl) (fun _ => ?_)
  refine wp_iload dL_law_431 rfl ?_
  refine wp_icmp_eq (tgt := 438) dL_law_433 (by decide) (fun _ => ?_) (fun hc => absurd ht hc)
  refine wp_iload dL_law_438 rfl ?_
  refine wp_if_ne (tgt := 455) dL_law_440 (by decide) (fun _ => ?_) (fun hc => ?_)
  · refine wp_goto (tgt := 2133) dL_law_455 (by decide) ?_
    exact wp_pick (ks := [2, 3, 4, 5, 6]) rfl (kk _ _ _ hS hI2)
  · have hk0 : kL1 rv = 0 := hc
    obtain ⟨v, rfl⟩ := kl1 hk0
    have hvb := hv v rfl
    refine wp_aload_n dL_law_443 rfl rfl ?_
    refine wp_iconst (v := 0) dL_law_444 (by decide) ?_
    refine wp_lald (n := 1) dL_law_445 (sk337 hS) (sn337 hS) (inb_in (by decide)) ?_
    refine wp_iload dL_law_446 rfl ?_
    refine wp_i2l dL_law_448 ?_
    refine wp_lcmp dL_law_449 ?_
    refine wp_if_eq (tgt := 455) dL_law_450 (by decide) (fun _ => ?_) (fun hc9 => absurd (lgc (by show (jL (.inl v) J) 337 0 = bb.toInt64; rw [jL_at, hvb])) hc9)
    refine wp_goto (tgt := 2133) dL_law_455 (by decide) ?_
    exact wp_pick (ks := [2, 3, 4, 5, 6]) rfl (kk _ _ _ hS hI2)
def St_pool (N : Nat) (Inv : Nat → gI → Prop) : Prop := ∀ (c : Nat) (I : gI) (J : gJ) (a1 a2 : Int32), c < 512 → Inv c I → ∃ (rv : Int32 ⊕ String) (bb : Int32) (I2 : gI), mX10_pool N a1 a2 I = some rv ∧ (∀ E, rv = .inr E → E = xnN ∨ E = xnA) ∧ mX11_pool N a1 a2 I = some (bb, I2) ∧ I2 310 0 = kL2 rv ∧ (∀ v, rv = .inl v → v = bb) ∧ Inv (c + 1) I2
set_option maxHeartbeats 4000000 in
set_option maxRecDepth 100000 in
theorem lc_pool {N L : Nat} {xs : Nat → Int32} {Inv : Nat → gI → Prop} (hst : St_pool N Inv) (d : Nat) (hd : 40 ≤ d) {rc rs i c : Nat} {S : gS} {I : gI} {J : gJ} (hi : i + 6 ≤ L) (hL : L ≤ 3072) (hS : Sh S) (hc : c < 512) (hI : Inv c I)
    (kk : ∀ S' I' J', Sh S' → Inv (c + 1) I' → Wp RL cL_law 7 (some .boolean) [] (hLw L xs) d rc rs 2133 [(0, .ref (gSB + 300)), (1, .ref 0), (2, .ref 310), (3, .ref 337), (4, .int (Int32.ofNat i))] [] S' I' J' QL) : Wp RL cL_law 7 (some .boolean) [] (hLw L xs) d (rc + 2) (rs + 12) 458 [(0, .ref (gSB + 300)), (1, .ref 0), (2, .ref 310), (3, .ref 337), (4, .int (Int32.ofNat i))] [] S I J QL := by
  obtain ⟨rv, bb, I2, h1, hE, h2, ht, hv, hI2⟩ := hst c I J (xs (Int32.ofNat i + 1).toNatClampNeg) (xs (Int32.ofNat i + 2).toNatClampNeg) hc hI
  refine wp_aload_n dL_law_458 rfl rfl ?_
  refine wp_aload_n dL_law_459 rfl rfl ?_
  refine wp_iload dL_law_460 rfl ?_
  refine wp_iconst (v := 1) dL_law_462 (by decide) ?_
  refine wp_iadd dL_law_463 ?_
  refine wp_sld dL_law_464 (sx 1 (by decide) hi hL) ?_
  refine wp_aload_n dL_law_465 rfl rfl ?_
  refine wp_iload dL_law_466 rfl ?_
  refine wp_iconst (v := 2) dL_law_468 (by decide) ?_
  refine wp_iadd dL_law_469 ?_
  refine wp_sld dL_law_470 (sx 2 (by decide) hi hL) ?_
  refine wp_aload_n dL_law_471 rfl rfl ?_
  refine wp_callSW (As := [.ref 0, .int (xs (Int32.ofNat i + 1).toNatClampNeg), .int (xs (Int32.ofNat i + 2).toNatClampNeg), .ref 337]) dL_law_472 lwL_pool mlL_129 smL_pool (ct_L_pool N 11 (Nat.le_refl _) hS h1 hE) rfl rfl (Nat.le_trans (by decide) hd) (Nat.le_of_ble_eq_true rfl) (fun _ _ _ _ h => h.2.2.2) (fun _ => ?_)
  show Wp RL cL_law 7 (some .boolean) [] (hLw L xs) d rc rs 475 [(0, .ref (gSB + 300)), (1, .ref 0), (2, .ref 310), (3, .ref 337), (4, .int (Int32.ofNat i))] [.int (kL2 rv)] S I (jL rv J) QL
  refine wp_istore (ls' := [(5, .int (kL2 rv)), (0, .ref (gSB + 300)), (1, .ref 0), (2, .ref 310), (3, .ref 337), (4, .int (Int32.ofNat i))]) dL_law_475 (Nat.le_of_ble_eq_true rfl) rfl ?_
  refine wp_aload_n dL_law_477 rfl rfl ?_
  refine wp_aload_n dL_law_478 rfl rfl ?_
  refine wp_iload dL_law_479 rfl ?_
  refine wp_iconst (v := 1) dL_law_481 (by decide) ?_
  refine wp_iadd dL_law_482 ?_
  refine wp_sld dL_law_483 (sx 1 (by decide) hi hL) ?_
  refine wp_aload_n dL_law_484 rfl rfl ?_
  refine wp_iload dL_law_485 rfl ?_
  refine wp_iconst (v := 2) dL_law_487 (by decide) ?_
  refine wp_iadd dL_law_488 ?_
  refine wp_sld dL_law_489 (sx 2 (by decide) hi hL) ?_
  refine wp_callVi (ci := 11) (As := [.int (xs (Int32.ofNat i + 1).toNatClampNeg), .int (xs (Int32.ofNat i + 2).toNatClampNeg)]) dL_law_490 lbX11_pool mlL_131 imX11_pool seX11_pool vc11 (ct_X11_pool N 2 (Nat.le_refl _) hS h2) rfl rfl (Nat.le_trans (by decide) hd) (sk310 hS) (sn310 hS) (Nat.le_of_ble_eq_true rfl) (fun _ => ?_)
  show Wp RL cL_law 7 (some .boolean) [] (hLw L xs) d rc rs 493 [(5, .int (kL2 rv)), (0, .ref (gSB + 300)), (1, .ref 0), (2, .ref 310), (3, .ref 337), (4, .int (Int32.ofNat i))] [.int bb] S I2 (jL rv J) QL
  refine wp_istore (ls' := [(6, .int bb), (5, .int (kL2 rv)), (0, .ref (gSB + 300)), (1, .ref 0), (2, .ref 310), (3, .ref 337), (4, .int (Int32.ofNat i))]) dL_law_493 (Nat.le_of_ble_eq_true rfl) rfl ?_
  refine wp_aload_n dL_law_495 rfl rfl ?_
  refine wp_callVi (ci := 11) (As := []) dL_law_496 lbX11_thrown mlL_114 imX11_thrown seX11_thrown vc11 (ct_X11_thrown 0 (Nat.le_refl _) hS tm_thrown) rfl rfl (Nat.le_trans (by decide) hd) (sk310 hS) (sn310 hS) (Nat.le_of_ble_eq_true rfl) (fun _ => ?_)
  refine wp_iload dL_law_499 rfl ?_
  refine wp_icmp_eq (tgt := 506) dL_law_501 (by decide) (fun _ => ?_) (fun hc => absurd ht hc)
  refine wp_iload dL_law_506 rfl ?_
  refine wp_if_ne (tgt := 523) dL_law_508 (by decide) (fun _ => ?_) (fun hc => ?_)
  · refine wp_goto (tgt := 2133) dL_law_523 (by decide) ?_
    exact wp_pick (ks := [2, 3, 4, 5, 6]) rfl (kk _ _ _ hS hI2)
  · have hk0 : kL2 rv = 0 := hc
    obtain ⟨v, rfl⟩ := kl2 hk0
    have hvb := hv v rfl
    refine wp_aload_n dL_law_511 rfl rfl ?_
    refine wp_iconst (v := 0) dL_law_512 (by decide) ?_
    refine wp_lald (n := 1) dL_law_513 (sk337 hS) (sn337 hS) (inb_in (by decide)) ?_
    refine wp_iload dL_law_514 rfl ?_
    refine wp_i2l dL_law_516 ?_
    refine wp_lcmp dL_law_517 ?_
    refine wp_if_eq (tgt := 523) dL_law_518 (by decide) (fun _ => ?_) (fun hc9 => absurd (lgc (by show (jL (.inl v) J) 337 0 = bb.toInt64; rw [jL_at, hvb])) hc9)
    refine wp_goto (tgt := 2133) dL_law_523 (by decide) ?_
    exact wp_pick (ks := [2, 3, 4, 5, 6]) rfl (kk _ _ _ hS hI2)
def St_tunnel (N : Nat) (Inv : Nat → gI → Prop) : Prop := ∀ (c : Nat) (I : gI) (J : gJ) (a1 a2 : Int32), c < 512 → Inv c I → ∃ (rv : Int32 ⊕ String) (I1 : gI) (bb : Int32) (I2 : gI), mX10_tunnel N a1 a2 I = some (rv, I1) ∧ (∀ E, rv = .inr E → E = xnN) ∧ mX11_tunnel N a1 a2 I1 = some (bb, I2) ∧ I2 310 0 = kL1 rv ∧ (∀ v, rv = .inl v → v = bb) ∧ Inv (c + 1) I2
set_option maxHeartbeats 4000000 in
set_option maxRecDepth 100000 in
theorem lc_tunnel {N L : Nat} {xs : Nat → Int32} {Inv : Nat → gI → Prop} (hst : St_tunnel N Inv) (d : Nat) (hd : 40 ≤ d) {rc rs i c : Nat} {S : gS} {I : gI} {J : gJ} (hi : i + 6 ≤ L) (hL : L ≤ 3072) (hS : Sh S) (hc : c < 512) (hI : Inv c I)
    (kk : ∀ S' I' J', Sh S' → Inv (c + 1) I' → Wp RL cL_law 7 (some .boolean) [] (hLw L xs) d rc rs 2133 [(0, .ref (gSB + 300)), (1, .ref 0), (2, .ref 310), (3, .ref 337), (4, .int (Int32.ofNat i))] [] S' I' J' QL) : Wp RL cL_law 7 (some .boolean) [] (hLw L xs) d (rc + 2) (rs + 12) 526 [(0, .ref (gSB + 300)), (1, .ref 0), (2, .ref 310), (3, .ref 337), (4, .int (Int32.ofNat i))] [] S I J QL := by
  obtain ⟨rv, I1, bb, I2, h1, hE, h2, ht, hv, hI2⟩ := hst c I J (xs (Int32.ofNat i + 1).toNatClampNeg) (xs (Int32.ofNat i + 2).toNatClampNeg) hc hI
  refine wp_aload_n dL_law_526 rfl rfl ?_
  refine wp_aload_n dL_law_527 rfl rfl ?_
  refine wp_iload dL_law_528 rfl ?_
  refine wp_iconst (v := 1) dL_law_530 (by decide) ?_
  refine wp_iadd dL_law_531 ?_
  refine wp_sld dL_law_532 (sx 1 (by decide) hi hL) ?_
  refine wp_aload_n dL_law_533 rfl rfl ?_
  refine wp_iload dL_law_534 rfl ?_
  refine wp_iconst (v := 2) dL_law_536 (by decide) ?_
  refine wp_iadd dL_law_537 ?_
  refine wp_sld dL_law_538 (sx 2 (by decide) hi hL) ?_
  refine wp_aload_n dL_law_539 rfl rfl ?_
  refine wp_callSW (As := [.ref 0, .int (xs (Int32.ofNat i + 1).toNatClampNeg), .int (xs (Int32.ofNat i + 2).toNatClampNeg), .ref 337]) dL_law_540 lwL_tunnel mlL_132 smL_tunnel (ct_L_tunnel N 11 (Nat.le_refl _) hS h1 hE) rfl rfl (Nat.le_trans (by decide) hd) (Nat.le_of_ble_eq_true rfl) (fun _ _ _ _ h => h.2.2.2) (fun _ => ?_)
  show Wp RL cL_law 7 (some .boolean) [] (hLw L xs) d rc rs 543 [(0, .ref (gSB + 300)), (1, .ref 0), (2, .ref 310), (3, .ref 337), (4, .int (Int32.ofNat i))] [.int (kL1 rv)] S I1 (jL rv J) QL
  refine wp_istore (ls' := [(5, .int (kL1 rv)), (0, .ref (gSB + 300)), (1, .ref 0), (2, .ref 310), (3, .ref 337), (4, .int (Int32.ofNat i))]) dL_law_543 (Nat.le_of_ble_eq_true rfl) rfl ?_
  refine wp_aload_n dL_law_545 rfl rfl ?_
  refine wp_aload_n dL_law_546 rfl rfl ?_
  refine wp_iload dL_law_547 rfl ?_
  refine wp_iconst (v := 1) dL_law_549 (by decide) ?_
  refine wp_iadd dL_law_550 ?_
  refine wp_sld dL_law_551 (sx 1 (by decide) hi hL) ?_
  refine wp_aload_n dL_law_552 rfl rfl ?_
  refine wp_iload dL_law_553 rfl ?_
  refine wp_iconst (v := 2) dL_law_555 (by decide) ?_
  refine wp_iadd dL_law_556 ?_
  refine wp_sld dL_law_557 (sx 2 (by decide) hi hL) ?_
  refine wp_callVi (ci := 11) (As := [.int (xs (Int32.ofNat i + 1).toNatClampNeg), .int (xs (Int32.ofNat i + 2).toNatClampNeg)]) dL_law_558 lbX11_tunnel mlL_134 imX11_tunnel seX11_tunnel vc11 (ct_X11_tunnel N 5 (Nat.le_refl _) hS h2) rfl rfl (Nat.le_trans (by decide) hd) (sk310 hS) (sn310 hS) (Nat.le_of_ble_eq_true rfl) (fun _ => ?_)
  show Wp RL cL_law 7 (some .boolean) [] (hLw L xs) d rc rs 561 [(5, .int (kL1 rv)), (0, .ref (gSB + 300)), (1, .ref 0), (2, .ref 310), (3, .ref 337), (4, .int (Int32.ofNat i))] [.int bb] S I2 (jL rv J) QL
  refine wp_istore (ls' := [(6, .int bb), (5, .int (kL1 rv)), (0, .ref (gSB + 300)), (1, .ref 0), (2, .ref 310), (3, .ref 337), (4, .int (Int32.ofNat i))]) dL_law_561 (Nat.le_of_ble_eq_true rfl) rfl ?_
  refine wp_aload_n dL_law_563 rfl rfl ?_
  refine wp_callVi (ci := 11) (As := []) dL_law_564 lbX11_thrown mlL_114 imX11_thrown seX11_thrown vc11 (ct_X11_thrown 0 (Nat.le_refl _) hS tm_thrown) rfl rfl (Nat.le_trans (by decide) hd) (sk310 hS) (sn310 hS) (Nat.le_of_ble_eq_true rfl) (fun _ => ?_)
  refine wp_iload dL_law_567 rfl ?_
  refine wp_icmp_eq (tgt := 574) dL_law_569 (by decide) (fun _ => ?_) (fun hc => absurd ht hc)
  refine wp_iload dL_law_574 rfl ?_
  refine wp_if_ne (tgt := 591) dL_law_576 (by decide) (fun _ => ?_) (fun hc => ?_)
  · refine wp_goto (tgt := 2133) dL_law_591 (by decide) ?_
    exact wp_pick (ks := [2, 3, 4, 5, 6]) rfl (kk _ _ _ hS hI2)
  · have hk0 : kL1 rv = 0 := hc
    obtain ⟨v, rfl⟩ := kl1 hk0
    have hvb := hv v rfl
    refine wp_aload_n dL_law_579 rfl rfl ?_
    refine wp_iconst (v := 0) dL_law_580 (by decide) ?_
    refine wp_lald (n := 1) dL_law_581 (sk337 hS) (sn337 hS) (inb_in (by decide)) ?_
    refine wp_iload dL_law_582 rfl ?_
    refine wp_i2l dL_law_584 ?_
    refine wp_lcmp dL_law_585 ?_
    refine wp_if_eq (tgt := 591) dL_law_586 (by decide) (fun _ => ?_) (fun hc9 => absurd (lgc (by show (jL (.inl v) J) 337 0 = bb.toInt64; rw [jL_at, hvb])) hc9)
    refine wp_goto (tgt := 2133) dL_law_591 (by decide) ?_
    exact wp_pick (ks := [2, 3, 4, 5, 6]) rfl (kk _ _ _ hS hI2)
def St_way (N : Nat) (Inv : Nat → gI → Prop) : Prop := ∀ (c : Nat) (I : gI) (J : gJ) (a1 a2 : Int32), c < 512 → Inv c I → ∃ (rv : Int32 ⊕ String) (bb : Int32) (I2 : gI), mX10_way N a1 a2 I = some rv ∧ (∀ E, rv = .inr E → E = xnN) ∧ mX11_way a1 a2 I = some (bb, I2) ∧ I2 310 0 = kL1 rv ∧ (∀ v, rv = .inl v → v = bb) ∧ Inv (c + 1) I2
set_option maxHeartbeats 4000000 in
set_option maxRecDepth 100000 in
theorem lc_way {N L : Nat} {xs : Nat → Int32} {Inv : Nat → gI → Prop} (hst : St_way N Inv) (d : Nat) (hd : 40 ≤ d) {rc rs i c : Nat} {S : gS} {I : gI} {J : gJ} (hi : i + 6 ≤ L) (hL : L ≤ 3072) (hS : Sh S) (hc : c < 512) (hI : Inv c I)
    (kk : ∀ S' I' J', Sh S' → Inv (c + 1) I' → Wp RL cL_law 7 (some .boolean) [] (hLw L xs) d rc rs 2133 [(0, .ref (gSB + 300)), (1, .ref 0), (2, .ref 310), (3, .ref 337), (4, .int (Int32.ofNat i))] [] S' I' J' QL) : Wp RL cL_law 7 (some .boolean) [] (hLw L xs) d (rc + 3) (rs + 18) 594 [(0, .ref (gSB + 300)), (1, .ref 0), (2, .ref 310), (3, .ref 337), (4, .int (Int32.ofNat i))] [] S I J QL := by
  obtain ⟨rv, bb, I2, h1, hE, h2, ht, hv, hI2⟩ := hst c I J (xs (Int32.ofNat i + 1).toNatClampNeg) (xs (Int32.ofNat i + 2).toNatClampNeg) hc hI
  refine wp_aload_n dL_law_594 rfl rfl ?_
  refine wp_aload_n dL_law_595 rfl rfl ?_
  refine wp_iload dL_law_596 rfl ?_
  refine wp_iconst (v := 1) dL_law_598 (by decide) ?_
  refine wp_iadd dL_law_599 ?_
  refine wp_sld dL_law_600 (sx 1 (by decide) hi hL) ?_
  refine wp_aload_n dL_law_601 rfl rfl ?_
  refine wp_iload dL_law_602 rfl ?_
  refine wp_iconst (v := 2) dL_law_604 (by decide) ?_
  refine wp_iadd dL_law_605 ?_
  refine wp_sld dL_law_606 (sx 2 (by decide) hi hL) ?_
  refine wp_aload_n dL_law_607 rfl rfl ?_
  refine wp_callSW (As := [.ref 0, .int (xs (Int32.ofNat i + 1).toNatClampNeg), .int (xs (Int32.ofNat i + 2).toNatClampNeg), .ref 337]) dL_law_608 lwL_way mlL_135 smL_way (ct_L_way N 11 (Nat.le_refl _) hS h1 hE) rfl rfl (Nat.le_trans (by decide) hd) (Nat.le_of_ble_eq_true rfl) (fun _ _ _ _ h => h.2.2.2) (fun _ => ?_)
  show Wp RL cL_law 7 (some .boolean) [] (hLw L xs) d rc rs 611 [(0, .ref (gSB + 300)), (1, .ref 0), (2, .ref 310), (3, .ref 337), (4, .int (Int32.ofNat i))] [.int (kL1 rv)] S I (jL rv J) QL
  refine wp_istore (ls' := [(5, .int (kL1 rv)), (0, .ref (gSB + 300)), (1, .ref 0), (2, .ref 310), (3, .ref 337), (4, .int (Int32.ofNat i))]) dL_law_611 (Nat.le_of_ble_eq_true rfl) rfl ?_
  refine wp_aload_n dL_law_613 rfl rfl ?_
  refine wp_aload_n dL_law_614 rfl rfl ?_
  refine wp_iload dL_law_615 rfl ?_
  refine wp_iconst (v := 1) dL_law_617 (by decide) ?_
  refine wp_iadd dL_law_618 ?_
  refine wp_sld dL_law_619 (sx 1 (by decide) hi hL) ?_
  refine wp_aload_n dL_law_620 rfl rfl ?_
  refine wp_iload dL_law_621 rfl ?_
  refine wp_iconst (v := 2) dL_law_623 (by decide) ?_
  refine wp_iadd dL_law_624 ?_
  refine wp_sld dL_law_625 (sx 2 (by decide) hi hL) ?_
  refine wp_callVi (ci := 11) (As := [.int (xs (Int32.ofNat i + 1).toNatClampNeg), .int (xs (Int32.ofNat i + 2).toNatClampNeg)]) dL_law_626 lbX11_way mlL_137 imX11_way seX11_way vc11 (ct_X11_way 2 (Nat.le_refl _) hS h2) rfl rfl (Nat.le_trans (by decide) hd) (sk310 hS) (sn310 hS) (Nat.le_of_ble_eq_true rfl) (fun _ => ?_)
  show Wp RL cL_law 7 (some .boolean) [] (hLw L xs) d rc rs 629 [(5, .int (kL1 rv)), (0, .ref (gSB + 300)), (1, .ref 0), (2, .ref 310), (3, .ref 337), (4, .int (Int32.ofNat i))] [.int bb] S I2 (jL rv J) QL
  refine wp_istore (ls' := [(6, .int bb), (5, .int (kL1 rv)), (0, .ref (gSB + 300)), (1, .ref 0), (2, .ref 310), (3, .ref 337), (4, .int (Int32.ofNat i))]) dL_law_629 (Nat.le_of_ble_eq_true rfl) rfl ?_
  refine wp_aload_n dL_law_631 rfl rfl ?_
  refine wp_callVi (ci := 11) (As := []) dL_law_632 lbX11_thrown mlL_114 imX11_thrown seX11_thrown vc11 (ct_X11_thrown 0 (Nat.le_refl _) hS tm_thrown) rfl rfl (Nat.le_trans (by decide) hd) (sk310 hS) (sn310 hS) (Nat.le_of_ble_eq_true rfl) (fun _ => ?_)
  refine wp_iload dL_law_635 rfl ?_
  refine wp_icmp_eq (tgt := 642) dL_law_637 (by decide) (fun _ => ?_) (fun hc => absurd ht hc)
  refine wp_iload dL_law_642 rfl ?_
  refine wp_if_ne (tgt := 659) dL_law_644 (by decide) (fun _ => ?_) (fun hc => ?_)
  · refine wp_goto (tgt := 2133) dL_law_659 (by decide) ?_
    exact wp_pick (ks := [2, 3, 4, 5, 6]) rfl (kk _ _ _ hS hI2)
  · have hk0 : kL1 rv = 0 := hc
    obtain ⟨v, rfl⟩ := kl1 hk0
    have hvb := hv v rfl
    refine wp_aload_n dL_law_647 rfl rfl ?_
    refine wp_iconst (v := 0) dL_law_648 (by decide) ?_
    refine wp_lald (n := 1) dL_law_649 (sk337 hS) (sn337 hS) (inb_in (by decide)) ?_
    refine wp_iload dL_law_650 rfl ?_
    refine wp_i2l dL_law_652 ?_
    refine wp_lcmp dL_law_653 ?_
    refine wp_if_eq (tgt := 659) dL_law_654 (by decide) (fun _ => ?_) (fun hc9 => absurd (lgc (by show (jL (.inl v) J) 337 0 = bb.toInt64; rw [jL_at, hvb])) hc9)
    refine wp_goto (tgt := 2133) dL_law_659 (by decide) ?_
    exact wp_pick (ks := [2, 3, 4, 5, 6]) rfl (kk _ _ _ hS hI2)
def St_best (N : Nat) (Inv : Nat → gI → Prop) : Prop := ∀ (c : Nat) (I : gI) (J : gJ) (a1 a2 : Int32), c < 512 → Inv c I → ∃ (rv : Int32 ⊕ String) (I1 : gI) (bb : Int32) (I2 : gI), mX10_best N a1 a2 I = some (rv, I1) ∧ (∀ E, rv = .inr E → E = xnN) ∧ mX11_best N a1 a2 I1 = some (bb, I2) ∧ I2 310 0 = kL1 rv ∧ (∀ v, rv = .inl v → v = bb) ∧ Inv (c + 1) I2
set_option maxHeartbeats 4000000 in
set_option maxRecDepth 100000 in
theorem lc_best {N L : Nat} {xs : Nat → Int32} {Inv : Nat → gI → Prop} (hst : St_best N Inv) (d : Nat) (hd : 40 ≤ d) {rc rs i c : Nat} {S : gS} {I : gI} {J : gJ} (hi : i + 6 ≤ L) (hL : L ≤ 3072) (hS : Sh S) (hc : c < 512) (hI : Inv c I)
    (kk : ∀ S' I' J', Sh S' → Inv (c + 1) I' → Wp RL cL_law 7 (some .boolean) [] (hLw L xs) d rc rs 2133 [(0, .ref (gSB + 300)), (1, .ref 0), (2, .ref 310), (3, .ref 337), (4, .int (Int32.ofNat i))] [] S' I' J' QL) : Wp RL cL_law 7 (some .boolean) [] (hLw L xs) d (rc + 2) (rs + 12) 662 [(0, .ref (gSB + 300)), (1, .ref 0), (2, .ref 310), (3, .ref 337), (4, .int (Int32.ofNat i))] [] S I J QL := by
  obtain ⟨rv, I1, bb, I2, h1, hE, h2, ht, hv, hI2⟩ := hst c I J (xs (Int32.ofNat i + 1).toNatClampNeg) (xs (Int32.ofNat i + 2).toNatClampNeg) hc hI
  refine wp_aload_n dL_law_662 rfl rfl ?_
  refine wp_aload_n dL_law_663 rfl rfl ?_
  refine wp_iload dL_law_664 rfl ?_
  refine wp_iconst (v := 1) dL_law_666 (by decide) ?_
  refine wp_iadd dL_law_667 ?_
  refine wp_sld dL_law_668 (sx 1 (by decide) hi hL) ?_
  refine wp_aload_n dL_law_669 rfl rfl ?_
  refine wp_iload dL_law_670 rfl ?_
  refine wp_iconst (v := 2) dL_law_672 (by decide) ?_
  refine wp_iadd dL_law_673 ?_
  refine wp_sld dL_law_674 (sx 2 (by decide) hi hL) ?_
  refine wp_aload_n dL_law_675 rfl rfl ?_
  refine wp_callSW (As := [.ref 0, .int (xs (Int32.ofNat i + 1).toNatClampNeg), .int (xs (Int32.ofNat i + 2).toNatClampNeg), .ref 337]) dL_law_676 lwL_best mlL_138 smL_best (ct_L_best N 11 (Nat.le_refl _) hS h1 hE) rfl rfl (Nat.le_trans (by decide) hd) (Nat.le_of_ble_eq_true rfl) (fun _ _ _ _ h => h.2.2.2) (fun _ => ?_)
  show Wp RL cL_law 7 (some .boolean) [] (hLw L xs) d rc rs 679 [(0, .ref (gSB + 300)), (1, .ref 0), (2, .ref 310), (3, .ref 337), (4, .int (Int32.ofNat i))] [.int (kL1 rv)] S I1 (jL rv J) QL
  refine wp_istore (ls' := [(5, .int (kL1 rv)), (0, .ref (gSB + 300)), (1, .ref 0), (2, .ref 310), (3, .ref 337), (4, .int (Int32.ofNat i))]) dL_law_679 (Nat.le_of_ble_eq_true rfl) rfl ?_
  refine wp_aload_n dL_law_681 rfl rfl ?_
  refine wp_aload_n dL_law_682 rfl rfl ?_
  refine wp_iload dL_law_683 rfl ?_
  refine wp_iconst (v := 1) dL_law_685 (by decide) ?_
  refine wp_iadd dL_law_686 ?_
  refine wp_sld dL_law_687 (sx 1 (by decide) hi hL) ?_
  refine wp_aload_n dL_law_688 rfl rfl ?_
  refine wp_iload dL_law_689 rfl ?_
  refine wp_iconst (v := 2) dL_law_691 (by decide) ?_
  refine wp_iadd dL_law_692 ?_
  refine wp_sld dL_law_693 (sx 2 (by decide) hi hL) ?_
  refine wp_callVi (ci := 11) (As := [.int (xs (Int32.ofNat i + 1).toNatClampNeg), .int (xs (Int32.ofNat i + 2).toNatClampNeg)]) dL_law_694 lbX11_best mlL_140 imX11_best seX11_best vc11 (ct_X11_best N 4 (Nat.le_refl _) hS h2) rfl rfl (Nat.le_trans (by decide) hd) (sk310 hS) (sn310 hS) (Nat.le_of_ble_eq_true rfl) (fun _ => ?_)
  show Wp RL cL_law 7 (some .boolean) [] (hLw L xs) d rc rs 697 [(5, .int (kL1 rv)), (0, .ref (gSB + 300)), (1, .ref 0), (2, .ref 310), (3, .ref 337), (4, .int (Int32.ofNat i))] [.int bb] S I2 (jL rv J) QL
  refine wp_istore (ls' := [(6, .int bb), (5, .int (kL1 rv)), (0, .ref (gSB + 300)), (1, .ref 0), (2, .ref 310), (3, .ref 337), (4, .int (Int32.ofNat i))]) dL_law_697 (Nat.le_of_ble_eq_true rfl) rfl ?_
  refine wp_aload_n dL_law_699 rfl rfl ?_
  refine wp_callVi (ci := 11) (As := []) dL_law_700 lbX11_thrown mlL_114 imX11_thrown seX11_thrown vc11 (ct_X11_thrown 0 (Nat.le_refl _) hS tm_thrown) rfl rfl (Nat.le_trans (by decide) hd) (sk310 hS) (sn310 hS) (Nat.le_of_ble_eq_true rfl) (fun _ => ?_)
  refine wp_iload dL_law_703 rfl ?_
  refine wp_icmp_eq (tgt := 710) dL_law_705 (by decide) (fun _ => ?_) (fun hc => absurd ht hc)
  refine wp_iload dL_law_710 rfl ?_
  refine wp_if_ne (tgt := 727) dL_law_712 (by decide) (fun _ => ?_) (fun hc => ?_)
  · refine wp_goto (tgt := 2133) dL_law_727 (by decide) ?_
    exact wp_pick (ks := [2, 3, 4, 5, 6]) rfl (kk _ _ _ hS hI2)
  · have hk0 : kL1 rv = 0 := hc
    obtain ⟨v, rfl⟩ := kl1 hk0
    have hvb := hv v rfl
    refine wp_aload_n dL_law_715 rfl rfl ?_
    refine wp_iconst (v := 0) dL_law_716 (by decide) ?_
    refine wp_lald (n := 1) dL_law_717 (sk337 hS) (sn337 hS) (inb_in (by decide)) ?_
    refine wp_iload dL_law_718 rfl ?_
    refine wp_i2l dL_law_720 ?_
    refine wp_lcmp dL_law_721 ?_
    refine wp_if_eq (tgt := 727) dL_law_722 (by decide) (fun _ => ?_) (fun hc9 => absurd (lgc (by show (jL (.inl v) J) 337 0 = bb.toInt64; rw [jL_at, hvb])) hc9)
    refine wp_goto (tgt := 2133) dL_law_727 (by decide) ?_
    exact wp_pick (ks := [2, 3, 4, 5, 6]) rfl (kk _ _ _ hS hI2)
def St_pushes (N : Nat) (Inv : Nat → gI → Prop) : Prop := ∀ (c : Nat) (I : gI) (J : gJ) (a1 a2 : Int32), c < 512 → Inv c I → ∃ (rv : Int32 ⊕ String) (I1 : gI) (bb : Int32) (I2 : gI), mX10_pushes N a1 a2 I = some (rv, I1) ∧ (∀ E, rv = .inr E → E = xnN) ∧ mX11_pushes N a1 a2 I1 = some (bb, I2) ∧ I2 310 0 = kL1 rv ∧ (∀ v, rv = .inl v → v = bb) ∧ Inv (c + 1) I2
set_option maxHeartbeats 4000000 in
set_option maxRecDepth 100000 in
theorem lc_pushes {N L : Nat} {xs : Nat → Int32} {Inv : Nat → gI → Prop} (hst : St_pushes N Inv) (d : Nat) (hd : 40 ≤ d) {rc rs i c : Nat} {S : gS} {I : gI} {J : gJ} (hi : i + 6 ≤ L) (hL : L ≤ 3072) (hS : Sh S) (hc : c < 512) (hI : Inv c I)
    (kk : ∀ S' I' J', Sh S' → Inv (c + 1) I' → Wp RL cL_law 7 (some .boolean) [] (hLw L xs) d rc rs 2133 [(0, .ref (gSB + 300)), (1, .ref 0), (2, .ref 310), (3, .ref 337), (4, .int (Int32.ofNat i))] [] S' I' J' QL) : Wp RL cL_law 7 (some .boolean) [] (hLw L xs) d (rc + 2) (rs + 12) 730 [(0, .ref (gSB + 300)), (1, .ref 0), (2, .ref 310), (3, .ref 337), (4, .int (Int32.ofNat i))] [] S I J QL := by
  obtain ⟨rv, I1, bb, I2, h1, hE, h2, ht, hv, hI2⟩ := hst c I J (xs (Int32.ofNat i + 1).toNatClampNeg) (xs (Int32.ofNat i + 2).toNatClampNeg) hc hI
  refine wp_aload_n dL_law_730 rfl rfl ?_
  refine wp_aload_n dL_law_731 rfl rfl ?_
  refine wp_iload dL_law_732 rfl ?_
  refine wp_iconst (v := 1) dL_law_734 (by decide) ?_
  refine wp_iadd dL_law_735 ?_
  refine wp_sld dL_law_736 (sx 1 (by decide) hi hL) ?_
  refine wp_aload_n dL_law_737 rfl rfl ?_
  refine wp_iload dL_law_738 rfl ?_
  refine wp_iconst (v := 2) dL_law_740 (by decide) ?_
  refine wp_iadd dL_law_741 ?_
  refine wp_sld dL_law_742 (sx 2 (by decide) hi hL) ?_
  refine wp_aload_n dL_law_743 rfl rfl ?_
  refine wp_callSW (As := [.ref 0, .int (xs (Int32.ofNat i + 1).toNatClampNeg), .int (xs (Int32.ofNat i + 2).toNatClampNeg), .ref 337]) dL_law_744 lwL_pushes mlL_141 smL_pushes (ct_L_pushes N 11 (Nat.le_refl _) hS h1 hE) rfl rfl (Nat.le_trans (by decide) hd) (Nat.le_of_ble_eq_true rfl) (fun _ _ _ _ h => h.2.2.2) (fun _ => ?_)
  show Wp RL cL_law 7 (some .boolean) [] (hLw L xs) d rc rs 747 [(0, .ref (gSB + 300)), (1, .ref 0), (2, .ref 310), (3, .ref 337), (4, .int (Int32.ofNat i))] [.int (kL1 rv)] S I1 (jL rv J) QL
  refine wp_istore (ls' := [(5, .int (kL1 rv)), (0, .ref (gSB + 300)), (1, .ref 0), (2, .ref 310), (3, .ref 337), (4, .int (Int32.ofNat i))]) dL_law_747 (Nat.le_of_ble_eq_true rfl) rfl ?_
  refine wp_aload_n dL_law_749 rfl rfl ?_
  refine wp_aload_n dL_law_750 rfl rfl ?_
  refine wp_iload dL_law_751 rfl ?_
  refine wp_iconst (v := 1) dL_law_753 (by decide) ?_
  refine wp_iadd dL_law_754 ?_
  refine wp_sld dL_law_755 (sx 1 (by decide) hi hL) ?_
  refine wp_aload_n dL_law_756 rfl rfl ?_
  refine wp_iload dL_law_757 rfl ?_
  refine wp_iconst (v := 2) dL_law_759 (by decide) ?_
  refine wp_iadd dL_law_760 ?_
  refine wp_sld dL_law_761 (sx 2 (by decide) hi hL) ?_
  refine wp_callVi (ci := 11) (As := [.int (xs (Int32.ofNat i + 1).toNatClampNeg), .int (xs (Int32.ofNat i + 2).toNatClampNeg)]) dL_law_762 lbX11_pushes mlL_143 imX11_pushes seX11_pushes vc11 (ct_X11_pushes N 6 (Nat.le_refl _) hS h2) rfl rfl (Nat.le_trans (by decide) hd) (sk310 hS) (sn310 hS) (Nat.le_of_ble_eq_true rfl) (fun _ => ?_)
  show Wp RL cL_law 7 (some .boolean) [] (hLw L xs) d rc rs 765 [(5, .int (kL1 rv)), (0, .ref (gSB + 300)), (1, .ref 0), (2, .ref 310), (3, .ref 337), (4, .int (Int32.ofNat i))] [.int bb] S I2 (jL rv J) QL
  refine wp_istore (ls' := [(6, .int bb), (5, .int (kL1 rv)), (0, .ref (gSB + 300)), (1, .ref 0), (2, .ref 310), (3, .ref 337), (4, .int (Int32.ofNat i))]) dL_law_765 (Nat.le_of_ble_eq_true rfl) rfl ?_
  refine wp_aload_n dL_law_767 rfl rfl ?_
  refine wp_callVi (ci := 11) (As := []) dL_law_768 lbX11_thrown mlL_114 imX11_thrown seX11_thrown vc11 (ct_X11_thrown 0 (Nat.le_refl _) hS tm_thrown) rfl rfl (Nat.le_trans (by decide) hd) (sk310 hS) (sn310 hS) (Nat.le_of_ble_eq_true rfl) (fun _ => ?_)
  refine wp_iload dL_law_771 rfl ?_
  refine wp_icmp_eq (tgt := 778) dL_law_773 (by decide) (fun _ => ?_) (fun hc => absurd ht hc)
  refine wp_iload dL_law_778 rfl ?_
  refine wp_if_ne (tgt := 795) dL_law_780 (by decide) (fun _ => ?_) (fun hc => ?_)
  · refine wp_goto (tgt := 2133) dL_law_795 (by decide) ?_
    exact wp_pick (ks := [2, 3, 4, 5, 6]) rfl (kk _ _ _ hS hI2)
  · have hk0 : kL1 rv = 0 := hc
    obtain ⟨v, rfl⟩ := kl1 hk0
    have hvb := hv v rfl
    refine wp_aload_n dL_law_783 rfl rfl ?_
    refine wp_iconst (v := 0) dL_law_784 (by decide) ?_
    refine wp_lald (n := 1) dL_law_785 (sk337 hS) (sn337 hS) (inb_in (by decide)) ?_
    refine wp_iload dL_law_786 rfl ?_
    refine wp_i2l dL_law_788 ?_
    refine wp_lcmp dL_law_789 ?_
    refine wp_if_eq (tgt := 795) dL_law_790 (by decide) (fun _ => ?_) (fun hc9 => absurd (lgc (by show (jL (.inl v) J) 337 0 = bb.toInt64; rw [jL_at, hvb])) hc9)
    refine wp_goto (tgt := 2133) dL_law_795 (by decide) ?_
    exact wp_pick (ks := [2, 3, 4, 5, 6]) rfl (kk _ _ _ hS hI2)
def St_setUp (N : Nat) (Inv : Nat → gI → Prop) : Prop := ∀ (c : Nat) (I : gI) (J : gJ) (a1 : Int32), c < 512 → Inv c I → ∃ (rv : Int32 ⊕ String) (I1 : gI) (bb : Int32) (I2 : gI), mX10_setUp N a1 I = some (rv, I1) ∧ (∀ E, rv = .inr E → E = xnN) ∧ mX11_setUp N a1 I1 = some (bb, I2) ∧ I2 310 0 = kL1 rv ∧ (∀ v, rv = .inl v → v = bb) ∧ Inv (c + 1) I2
set_option maxHeartbeats 4000000 in
set_option maxRecDepth 100000 in
theorem lc_setUp {N L : Nat} {xs : Nat → Int32} {Inv : Nat → gI → Prop} (hst : St_setUp N Inv) (d : Nat) (hd : 40 ≤ d) {rc rs i c : Nat} {S : gS} {I : gI} {J : gJ} (hi : i + 6 ≤ L) (hL : L ≤ 3072) (hS : Sh S) (hc : c < 512) (hI : Inv c I)
    (kk : ∀ S' I' J', Sh S' → Inv (c + 1) I' → Wp RL cL_law 7 (some .boolean) [] (hLw L xs) d rc rs 2133 [(0, .ref (gSB + 300)), (1, .ref 0), (2, .ref 310), (3, .ref 337), (4, .int (Int32.ofNat i))] [] S' I' J' QL) : Wp RL cL_law 7 (some .boolean) [] (hLw L xs) d (rc + 1) (rs + 6) 798 [(0, .ref (gSB + 300)), (1, .ref 0), (2, .ref 310), (3, .ref 337), (4, .int (Int32.ofNat i))] [] S I J QL := by
  obtain ⟨rv, I1, bb, I2, h1, hE, h2, ht, hv, hI2⟩ := hst c I J (xs (Int32.ofNat i + 1).toNatClampNeg) hc hI
  refine wp_aload_n dL_law_798 rfl rfl ?_
  refine wp_aload_n dL_law_799 rfl rfl ?_
  refine wp_iload dL_law_800 rfl ?_
  refine wp_iconst (v := 1) dL_law_802 (by decide) ?_
  refine wp_iadd dL_law_803 ?_
  refine wp_sld dL_law_804 (sx 1 (by decide) hi hL) ?_
  refine wp_aload_n dL_law_805 rfl rfl ?_
  refine wp_callSW (As := [.ref 0, .int (xs (Int32.ofNat i + 1).toNatClampNeg), .ref 337]) dL_law_806 lwL_setUp mlL_144 smL_setUp (ct_L_setUp N 11 (Nat.le_refl _) hS h1 hE) rfl rfl (Nat.le_trans (by decide) hd) (Nat.le_of_ble_eq_true rfl) (fun _ _ _ _ h => h.2.2.2) (fun _ => ?_)
  show Wp RL cL_law 7 (some .boolean) [] (hLw L xs) d rc rs 809 [(0, .ref (gSB + 300)), (1, .ref 0), (2, .ref 310), (3, .ref 337), (4, .int (Int32.ofNat i))] [.int (kL1 rv)] S I1 (jL rv J) QL
  refine wp_istore (ls' := [(5, .int (kL1 rv)), (0, .ref (gSB + 300)), (1, .ref 0), (2, .ref 310), (3, .ref 337), (4, .int (Int32.ofNat i))]) dL_law_809 (Nat.le_of_ble_eq_true rfl) rfl ?_
  refine wp_aload_n dL_law_811 rfl rfl ?_
  refine wp_aload_n dL_law_812 rfl rfl ?_
  refine wp_iload dL_law_813 rfl ?_
  refine wp_iconst (v := 1) dL_law_815 (by decide) ?_
  refine wp_iadd dL_law_816 ?_
  refine wp_sld dL_law_817 (sx 1 (by decide) hi hL) ?_
  refine wp_callVi (ci := 11) (As := [.int (xs (Int32.ofNat i + 1).toNatClampNeg)]) dL_law_818 lbX11_setUp mlL_146 imX11_setUp seX11_setUp vc11 (ct_X11_setUp N 6 (Nat.le_refl _) hS h2) rfl rfl (Nat.le_trans (by decide) hd) (sk310 hS) (sn310 hS) (Nat.le_of_ble_eq_true rfl) (fun _ => ?_)
  show Wp RL cL_law 7 (some .boolean) [] (hLw L xs) d rc rs 821 [(5, .int (kL1 rv)), (0, .ref (gSB + 300)), (1, .ref 0), (2, .ref 310), (3, .ref 337), (4, .int (Int32.ofNat i))] [.int bb] S I2 (jL rv J) QL
  refine wp_istore (ls' := [(6, .int bb), (5, .int (kL1 rv)), (0, .ref (gSB + 300)), (1, .ref 0), (2, .ref 310), (3, .ref 337), (4, .int (Int32.ofNat i))]) dL_law_821 (Nat.le_of_ble_eq_true rfl) rfl ?_
  refine wp_aload_n dL_law_823 rfl rfl ?_
  refine wp_callVi (ci := 11) (As := []) dL_law_824 lbX11_thrown mlL_114 imX11_thrown seX11_thrown vc11 (ct_X11_thrown 0 (Nat.le_refl _) hS tm_thrown) rfl rfl (Nat.le_trans (by decide) hd) (sk310 hS) (sn310 hS) (Nat.le_of_ble_eq_true rfl) (fun _ => ?_)
  refine wp_iload dL_law_827 rfl ?_
  refine wp_icmp_eq (tgt := 834) dL_law_829 (by decide) (fun _ => ?_) (fun hc => absurd ht hc)
  refine wp_iload dL_law_834 rfl ?_
  refine wp_if_ne (tgt := 851) dL_law_836 (by decide) (fun _ => ?_) (fun hc => ?_)
  · refine wp_goto (tgt := 2133) dL_law_851 (by decide) ?_
    exact wp_pick (ks := [2, 3, 4, 5, 6]) rfl (kk _ _ _ hS hI2)
  · have hk0 : kL1 rv = 0 := hc
    obtain ⟨v, rfl⟩ := kl1 hk0
    have hvb := hv v rfl
    refine wp_aload_n dL_law_839 rfl rfl ?_
    refine wp_iconst (v := 0) dL_law_840 (by decide) ?_
    refine wp_lald (n := 1) dL_law_841 (sk337 hS) (sn337 hS) (inb_in (by decide)) ?_
    refine wp_iload dL_law_842 rfl ?_
    refine wp_i2l dL_law_844 ?_
    refine wp_lcmp dL_law_845 ?_
    refine wp_if_eq (tgt := 851) dL_law_846 (by decide) (fun _ => ?_) (fun hc9 => absurd (lgc (by show (jL (.inl v) J) 337 0 = bb.toInt64; rw [jL_at, hvb])) hc9)
    refine wp_goto (tgt := 2133) dL_law_851 (by decide) ?_
    exact wp_pick (ks := [2, 3, 4, 5, 6]) rfl (kk _ _ _ hS hI2)
def St_tearDown (N : Nat) (Inv : Nat → gI → Prop) : Prop := ∀ (c : Nat) (I : gI) (J : gJ) (a1 : Int32), c < 512 → Inv c I → ∃ (rv : Int32 ⊕ String) (I1 : gI) (bb : Int32) (I2 : gI), mX10_tearDown N a1 I = some (rv, I1) ∧ (∀ E, rv = .inr E → E = xnN) ∧ mX11_tearDown N a1 I1 = some (bb, I2) ∧ I2 310 0 = kL1 rv ∧ (∀ v, rv = .inl v → v = bb) ∧ Inv (c + 1) I2
set_option maxHeartbeats 4000000 in
set_option maxRecDepth 100000 in
theorem lc_tearDown {N L : Nat} {xs : Nat → Int32} {Inv : Nat → gI → Prop} (hst : St_tearDown N Inv) (d : Nat) (hd : 40 ≤ d) {rc rs i c : Nat} {S : gS} {I : gI} {J : gJ} (hi : i + 6 ≤ L) (hL : L ≤ 3072) (hS : Sh S) (hc : c < 512) (hI : Inv c I)
    (kk : ∀ S' I' J', Sh S' → Inv (c + 1) I' → Wp RL cL_law 7 (some .boolean) [] (hLw L xs) d rc rs 2133 [(0, .ref (gSB + 300)), (1, .ref 0), (2, .ref 310), (3, .ref 337), (4, .int (Int32.ofNat i))] [] S' I' J' QL) : Wp RL cL_law 7 (some .boolean) [] (hLw L xs) d (rc + 1) (rs + 6) 854 [(0, .ref (gSB + 300)), (1, .ref 0), (2, .ref 310), (3, .ref 337), (4, .int (Int32.ofNat i))] [] S I J QL := by
  obtain ⟨rv, I1, bb, I2, h1, hE, h2, ht, hv, hI2⟩ := hst c I J (xs (Int32.ofNat i + 1).toNatClampNeg) hc hI
  refine wp_aload_n dL_law_854 rfl rfl ?_
  refine wp_aload_n dL_law_855 rfl rfl ?_
  refine wp_iload dL_law_856 rfl ?_
  refine wp_iconst (v := 1) dL_law_858 (by decide) ?_
  refine wp_iadd dL_law_859 ?_
  refine wp_sld dL_law_860 (sx 1 (by decide) hi hL) ?_
  refine wp_aload_n dL_law_861 rfl rfl ?_
  refine wp_callSW (As := [.ref 0, .int (xs (Int32.ofNat i + 1).toNatClampNeg), .ref 337]) dL_law_862 lwL_tearDown mlL_147 smL_tearDown (ct_L_tearDown N 11 (Nat.le_refl _) hS h1 hE) rfl rfl (Nat.le_trans (by decide) hd) (Nat.le_of_ble_eq_true rfl) (fun _ _ _ _ h => h.2.2.2) (fun _ => ?_)
  show Wp RL cL_law 7 (some .boolean) [] (hLw L xs) d rc rs 865 [(0, .ref (gSB + 300)), (1, .ref 0), (2, .ref 310), (3, .ref 337), (4, .int (Int32.ofNat i))] [.int (kL1 rv)] S I1 (jB rv J) QL
  refine wp_istore (ls' := [(5, .int (kL1 rv)), (0, .ref (gSB + 300)), (1, .ref 0), (2, .ref 310), (3, .ref 337), (4, .int (Int32.ofNat i))]) dL_law_865 (Nat.le_of_ble_eq_true rfl) rfl ?_
  refine wp_aload_n dL_law_867 rfl rfl ?_
  refine wp_aload_n dL_law_868 rfl rfl ?_
  refine wp_iload dL_law_869 rfl ?_
  refine wp_iconst (v := 1) dL_law_871 (by decide) ?_
  refine wp_iadd dL_law_872 ?_
  refine wp_sld dL_law_873 (sx 1 (by decide) hi hL) ?_
  refine wp_callVi (ci := 11) (As := [.int (xs (Int32.ofNat i + 1).toNatClampNeg)]) dL_law_874 lbX11_tearDown mlL_149 imX11_tearDown seX11_tearDown vc11 (ct_X11_tearDown N 2 (Nat.le_refl _) hS h2) rfl rfl (Nat.le_trans (by decide) hd) (sk310 hS) (sn310 hS) (Nat.le_of_ble_eq_true rfl) (fun _ => ?_)
  show Wp RL cL_law 7 (some .boolean) [] (hLw L xs) d rc rs 877 [(5, .int (kL1 rv)), (0, .ref (gSB + 300)), (1, .ref 0), (2, .ref 310), (3, .ref 337), (4, .int (Int32.ofNat i))] [.int bb] S I2 (jB rv J) QL
  refine wp_istore (ls' := [(6, .int bb), (5, .int (kL1 rv)), (0, .ref (gSB + 300)), (1, .ref 0), (2, .ref 310), (3, .ref 337), (4, .int (Int32.ofNat i))]) dL_law_877 (Nat.le_of_ble_eq_true rfl) rfl ?_
  refine wp_aload_n dL_law_879 rfl rfl ?_
  refine wp_callVi (ci := 11) (As := []) dL_law_880 lbX11_thrown mlL_114 imX11_thrown seX11_thrown vc11 (ct_X11_thrown 0 (Nat.le_refl _) hS tm_thrown) rfl rfl (Nat.le_trans (by decide) hd) (sk310 hS) (sn310 hS) (Nat.le_of_ble_eq_true rfl) (fun _ => ?_)
  refine wp_iload dL_law_883 rfl ?_
  refine wp_icmp_eq (tgt := 890) dL_law_885 (by decide) (fun _ => ?_) (fun hc => absurd ht hc)
  refine wp_iload dL_law_890 rfl ?_
  refine wp_if_ne (tgt := 914) dL_law_892 (by decide) (fun _ => ?_) (fun hc => ?_)
  · refine wp_goto (tgt := 2133) dL_law_914 (by decide) ?_
    exact wp_pick (ks := [2, 3, 4, 5, 6]) rfl (kk _ _ _ hS hI2)
  · have hk0 : kL1 rv = 0 := hc
    obtain ⟨v, rfl⟩ := kl1 hk0
    have hvb := hv v rfl
    refine wp_aload_n dL_law_895 rfl rfl ?_
    refine wp_iconst (v := 0) dL_law_896 (by decide) ?_
    refine wp_lald (n := 1) dL_law_897 (sk337 hS) (sn337 hS) (inb_in (by decide)) ?_
    refine wp_iload dL_law_898 rfl ?_
    refine wp_if_eq (tgt := 907) dL_law_900 (by decide) (fun hb0 => ?_) (fun hb0 => ?_)
    · refine wp_lconst (v := 0) dL_law_907 (by decide) ?_
      refine wp_lcmp dL_law_908 ?_
      refine wp_if_eq (tgt := 914) dL_law_909 (by decide) (fun _ => ?_) (fun hc9 => absurd (lgc (by show (jB (.inl v) J) 337 0 = 0; rw [jB_at, hvb, if_pos hb0])) hc9)
      refine wp_goto (tgt := 2133) dL_law_914 (by decide) ?_
      exact wp_pick (ks := [2, 3, 4, 5, 6]) rfl (kk _ _ _ hS hI2)
    · refine wp_lconst (v := 1) dL_law_903 (by decide) ?_
      refine wp_goto (tgt := 908) dL_law_904 (by decide) ?_
      refine wp_lcmp dL_law_908 ?_
      refine wp_if_eq (tgt := 914) dL_law_909 (by decide) (fun _ => ?_) (fun hc9 => absurd (lgc (by show (jB (.inl v) J) 337 0 = 1; rw [jB_at, hvb, if_neg hb0])) hc9)
      refine wp_goto (tgt := 2133) dL_law_914 (by decide) ?_
      exact wp_pick (ks := [2, 3, 4, 5, 6]) rfl (kk _ _ _ hS hI2)
def St_move (N : Nat) (Inv : Nat → gI → Prop) : Prop := ∀ (c : Nat) (I : gI) (J : gJ) (a1 : Int32), c < 512 → Inv c I → ∃ (rv : Int32 ⊕ String) (I1 : gI) (bb : Int32) (I2 : gI), mX10_move N a1 I = some (rv, I1) ∧ (∀ E, rv = .inr E → E = xnN) ∧ mX11_move N a1 I1 = some (bb, I2) ∧ I2 310 0 = kL1 rv ∧ (∀ v, rv = .inl v → v = bb) ∧ Inv (c + 1) I2
set_option maxHeartbeats 4000000 in
set_option maxRecDepth 100000 in
theorem lc_move {N L : Nat} {xs : Nat → Int32} {Inv : Nat → gI → Prop} (hst : St_move N Inv) (d : Nat) (hd : 40 ≤ d) {rc rs i c : Nat} {S : gS} {I : gI} {J : gJ} (hi : i + 6 ≤ L) (hL : L ≤ 3072) (hS : Sh S) (hc : c < 512) (hI : Inv c I)
    (kk : ∀ S' I' J', Sh S' → Inv (c + 1) I' → Wp RL cL_law 7 (some .boolean) [] (hLw L xs) d rc rs 2133 [(0, .ref (gSB + 300)), (1, .ref 0), (2, .ref 310), (3, .ref 337), (4, .int (Int32.ofNat i))] [] S' I' J' QL) : Wp RL cL_law 7 (some .boolean) [] (hLw L xs) d (rc + 1) (rs + 6) 917 [(0, .ref (gSB + 300)), (1, .ref 0), (2, .ref 310), (3, .ref 337), (4, .int (Int32.ofNat i))] [] S I J QL := by
  obtain ⟨rv, I1, bb, I2, h1, hE, h2, ht, hv, hI2⟩ := hst c I J (xs (Int32.ofNat i + 1).toNatClampNeg) hc hI
  refine wp_aload_n dL_law_917 rfl rfl ?_
  refine wp_aload_n dL_law_918 rfl rfl ?_
  refine wp_iload dL_law_919 rfl ?_
  refine wp_iconst (v := 1) dL_law_921 (by decide) ?_
  refine wp_iadd dL_law_922 ?_
  refine wp_sld dL_law_923 (sx 1 (by decide) hi hL) ?_
  refine wp_aload_n dL_law_924 rfl rfl ?_
  refine wp_callSW (As := [.ref 0, .int (xs (Int32.ofNat i + 1).toNatClampNeg), .ref 337]) dL_law_925 lwL_move mlL_150 smL_move (ct_L_move N 11 (Nat.le_refl _) hS h1 hE) rfl rfl (Nat.le_trans (by decide) hd) (Nat.le_of_ble_eq_true rfl) (fun _ _ _ _ h => h.2.2.2) (fun _ => ?_)
  show Wp RL cL_law 7 (some .boolean) [] (hLw L xs) d rc rs 928 [(0, .ref (gSB + 300)), (1, .ref 0), (2, .ref 310), (3, .ref 337), (4, .int (Int32.ofNat i))] [.int (kL1 rv)] S I1 (jL rv J) QL
  refine wp_istore (ls' := [(5, .int (kL1 rv)), (0, .ref (gSB + 300)), (1, .ref 0), (2, .ref 310), (3, .ref 337), (4, .int (Int32.ofNat i))]) dL_law_928 (Nat.le_of_ble_eq_true rfl) rfl ?_
  refine wp_aload_n dL_law_930 rfl rfl ?_
  refine wp_aload_n dL_law_931 rfl rfl ?_
  refine wp_iload dL_law_932 rfl ?_
  refine wp_iconst (v := 1) dL_law_934 (by decide) ?_
  refine wp_iadd dL_law_935 ?_
  refine wp_sld dL_law_936 (sx 1 (by decide) hi hL) ?_
  refine wp_callVi (ci := 11) (As := [.int (xs (Int32.ofNat i + 1).toNatClampNeg)]) dL_law_937 lbX11_move mlL_152 imX11_move seX11_move vc11 (ct_X11_move N 6 (Nat.le_refl _) hS h2) rfl rfl (Nat.le_trans (by decide) hd) (sk310 hS) (sn310 hS) (Nat.le_of_ble_eq_true rfl) (fun _ => ?_)
  show Wp RL cL_law 7 (some .boolean) [] (hLw L xs) d rc rs 940 [(5, .int (kL1 rv)), (0, .ref (gSB + 300)), (1, .ref 0), (2, .ref 310), (3, .ref 337), (4, .int (Int32.ofNat i))] [.int bb] S I2 (jL rv J) QL
  refine wp_istore (ls' := [(6, .int bb), (5, .int (kL1 rv)), (0, .ref (gSB + 300)), (1, .ref 0), (2, .ref 310), (3, .ref 337), (4, .int (Int32.ofNat i))]) dL_law_940 (Nat.le_of_ble_eq_true rfl) rfl ?_
  refine wp_aload_n dL_law_942 rfl rfl ?_
  refine wp_callVi (ci := 11) (As := []) dL_law_943 lbX11_thrown mlL_114 imX11_thrown seX11_thrown vc11 (ct_X11_thrown 0 (Nat.le_refl _) hS tm_thrown) rfl rfl (Nat.le_trans (by decide) hd) (sk310 hS) (sn310 hS) (Nat.le_of_ble_eq_true rfl) (fun _ => ?_)
  refine wp_iload dL_law_946 rfl ?_
  refine wp_icmp_eq (tgt := 953) dL_law_948 (by decide) (fun _ => ?_) (fun hc => absurd ht hc)
  refine wp_iload dL_law_953 rfl ?_
  refine wp_if_ne (tgt := 970) dL_law_955 (by decide) (fun _ => ?_) (fun hc => ?_)
  · refine wp_goto (tgt := 2133) dL_law_970 (by decide) ?_
    exact wp_pick (ks := [2, 3, 4, 5, 6]) rfl (kk _ _ _ hS hI2)
  · have hk0 : kL1 rv = 0 := hc
    obtain ⟨v, rfl⟩ := kl1 hk0
    have hvb := hv v rfl
    refine wp_aload_n dL_law_958 rfl rfl ?_
    refine wp_iconst (v := 0) dL_law_959 (by decide) ?_
    refine wp_lald (n := 1) dL_law_960 (sk337 hS) (sn337 hS) (inb_in (by decide)) ?_
    refine wp_iload dL_law_961 rfl ?_
    refine wp_i2l dL_law_963 ?_
    refine wp_lcmp dL_law_964 ?_
    refine wp_if_eq (tgt := 970) dL_law_965 (by decide) (fun _ => ?_) (fun hc9 => absurd (lgc (by show (jL (.inl v) J) 337 0 = bb.toInt64; rw [jL_at, hvb])) hc9)
    refine wp_goto (tgt := 2133) dL_law_970 (by decide) ?_
    exact wp_pick (ks := [2, 3, 4, 5, 6]) rfl (kk _ _ _ hS hI2)
def St_resize (N : Nat) (Inv : Nat → gI → Prop) : Prop := ∀ (c : Nat) (I : gI) (J : gJ) (a1 a2 : Int32), c < 512 → Inv c I → ∃ (rv : Int32 ⊕ String) (I1 : gI) (bb : Int32) (I2 : gI), mX10_resize N a1 a2 I = some (rv, I1) ∧ (∀ E, rv = .inr E → E = xnN) ∧ mX11_resize N a1 a2 I1 = some (bb, I2) ∧ I2 310 0 = kL1 rv ∧ (∀ v, rv = .inl v → v = bb) ∧ Inv (c + 1) I2
set_option maxHeartbeats 4000000 in
set_option maxRecDepth 100000 in
theorem lc_resize {N L : Nat} {xs : Nat → Int32} {Inv : Nat → gI → Prop} (hst : St_resize N Inv) (d : Nat) (hd : 40 ≤ d) {rc rs i c : Nat} {S : gS} {I : gI} {J : gJ} (hi : i + 6 ≤ L) (hL : L ≤ 3072) (hS : Sh S) (hc : c < 512) (hI : Inv c I)
    (kk : ∀ S' I' J', Sh S' → Inv (c + 1) I' → Wp RL cL_law 7 (some .boolean) [] (hLw L xs) d rc rs 2133 [(0, .ref (gSB + 300)), (1, .ref 0), (2, .ref 310), (3, .ref 337), (4, .int (Int32.ofNat i))] [] S' I' J' QL) : Wp RL cL_law 7 (some .boolean) [] (hLw L xs) d (rc + 1) (rs + 6) 973 [(0, .ref (gSB + 300)), (1, .ref 0), (2, .ref 310), (3, .ref 337), (4, .int (Int32.ofNat i))] [] S I J QL := by
  obtain ⟨rv, I1, bb, I2, h1, hE, h2, ht, hv, hI2⟩ := hst c I J (xs (Int32.ofNat i + 1).toNatClampNeg) (xs (Int32.ofNat i + 2).toNatClampNeg) hc hI
  refine wp_aload_n dL_law_973 rfl rfl ?_
  refine wp_aload_n dL_law_974 rfl rfl ?_
  refine wp_iload dL_law_975 rfl ?_
  refine wp_iconst (v := 1) dL_law_977 (by decide) ?_
  refine wp_iadd dL_law_978 ?_
  refine wp_sld dL_law_979 (sx 1 (by decide) hi hL) ?_
  refine wp_aload_n dL_law_980 rfl rfl ?_
  refine wp_iload dL_law_981 rfl ?_
  refine wp_iconst (v := 2) dL_law_983 (by decide) ?_
  refine wp_iadd dL_law_984 ?_
  refine wp_sld dL_law_985 (sx 2 (by decide) hi hL) ?_
  refine wp_aload_n dL_law_986 rfl rfl ?_
  refine wp_callSW (As := [.ref 0, .int (xs (Int32.ofNat i + 1).toNatClampNeg), .int (xs (Int32.ofNat i + 2).toNatClampNeg), .ref 337]) dL_law_987 lwL_resize mlL_153 smL_resize (ct_L_resize N 11 (Nat.le_refl _) hS h1 hE) rfl rfl (Nat.le_trans (by decide) hd) (Nat.le_of_ble_eq_true rfl) (fun _ _ _ _ h => h.2.2.2) (fun _ => ?_)
  show Wp RL cL_law 7 (some .boolean) [] (hLw L xs) d rc rs 990 [(0, .ref (gSB + 300)), (1, .ref 0), (2, .ref 310), (3, .ref 337), (4, .int (Int32.ofNat i))] [.int (kL1 rv)] S I1 (jL rv J) QL
  refine wp_istore (ls' := [(5, .int (kL1 rv)), (0, .ref (gSB + 300)), (1, .ref 0), (2, .ref 310), (3, .ref 337), (4, .int (Int32.ofNat i))]) dL_law_990 (Nat.le_of_ble_eq_true rfl) rfl ?_
  refine wp_aload_n dL_law_992 rfl rfl ?_
  refine wp_aload_n dL_law_993 rfl rfl ?_
  refine wp_iload dL_law_994 rfl ?_
  refine wp_iconst (v := 1) dL_law_996 (by decide) ?_
  refine wp_iadd dL_law_997 ?_
  refine wp_sld dL_law_998 (sx 1 (by decide) hi hL) ?_
  refine wp_aload_n dL_law_999 rfl rfl ?_
  refine wp_iload dL_law_1000 rfl ?_
  refine wp_iconst (v := 2) dL_law_1002 (by decide) ?_
  refine wp_iadd dL_law_1003 ?_
  refine wp_sld dL_law_1004 (sx 2 (by decide) hi hL) ?_
  refine wp_callVi (ci := 11) (As := [.int (xs (Int32.ofNat i + 1).toNatClampNeg), .int (xs (Int32.ofNat i + 2).toNatClampNeg)]) dL_law_1005 lbX11_resize mlL_155 imX11_resize seX11_resize vc11 (ct_X11_resize N 6 (Nat.le_refl _) hS h2) rfl rfl (Nat.le_trans (by decide) hd) (sk310 hS) (sn310 hS) (Nat.le_of_ble_eq_true rfl) (fun _ => ?_)
  show Wp RL cL_law 7 (some .boolean) [] (hLw L xs) d rc rs 1008 [(5, .int (kL1 rv)), (0, .ref (gSB + 300)), (1, .ref 0), (2, .ref 310), (3, .ref 337), (4, .int (Int32.ofNat i))] [.int bb] S I2 (jL rv J) QL
  refine wp_istore (ls' := [(6, .int bb), (5, .int (kL1 rv)), (0, .ref (gSB + 300)), (1, .ref 0), (2, .ref 310), (3, .ref 337), (4, .int (Int32.ofNat i))]) dL_law_1008 (Nat.le_of_ble_eq_true rfl) rfl ?_
  refine wp_aload_n dL_law_1010 rfl rfl ?_
  refine wp_callVi (ci := 11) (As := []) dL_law_1011 lbX11_thrown mlL_114 imX11_thrown seX11_thrown vc11 (ct_X11_thrown 0 (Nat.le_refl _) hS tm_thrown) rfl rfl (Nat.le_trans (by decide) hd) (sk310 hS) (sn310 hS) (Nat.le_of_ble_eq_true rfl) (fun _ => ?_)
  refine wp_iload dL_law_1014 rfl ?_
  refine wp_icmp_eq (tgt := 1021) dL_law_1016 (by decide) (fun _ => ?_) (fun hc => absurd ht hc)
  refine wp_iload dL_law_1021 rfl ?_
  refine wp_if_ne (tgt := 1038) dL_law_1023 (by decide) (fun _ => ?_) (fun hc => ?_)
  · refine wp_goto (tgt := 2133) dL_law_1038 (by decide) ?_
    exact wp_pick (ks := [2, 3, 4, 5, 6]) rfl (kk _ _ _ hS hI2)
  · have hk0 : kL1 rv = 0 := hc
    obtain ⟨v, rfl⟩ := kl1 hk0
    have hvb := hv v rfl
    refine wp_aload_n dL_law_1026 rfl rfl ?_
    refine wp_iconst (v := 0) dL_law_1027 (by decide) ?_
    refine wp_lald (n := 1) dL_law_1028 (sk337 hS) (sn337 hS) (inb_in (by decide)) ?_
    refine wp_iload dL_law_1029 rfl ?_
    refine wp_i2l dL_law_1031 ?_
    refine wp_lcmp dL_law_1032 ?_
    refine wp_if_eq (tgt := 1038) dL_law_1033 (by decide) (fun _ => ?_) (fun hc9 => absurd (lgc (by show (jL (.inl v) J) 337 0 = bb.toInt64; rw [jL_at, hvb])) hc9)
    refine wp_goto (tgt := 2133) dL_law_1038 (by decide) ?_
    exact wp_pick (ks := [2, 3, 4, 5, 6]) rfl (kk _ _ _ hS hI2)
def St_fail (N : Nat) (Inv : Nat → gI → Prop) : Prop := ∀ (c : Nat) (I : gI) (J : gJ) (a1 : Int32), c < 512 → Inv c I → ∃ (rv : Int32 ⊕ String) (I1 : gI) (bb : Int32) (I2 : gI), mX10_fail N a1 I = some (rv, I1) ∧ (∀ E, rv = .inr E → E = xnN) ∧ mX11_fail N a1 I1 = some (bb, I2) ∧ I2 310 0 = kL1 rv ∧ (∀ v, rv = .inl v → v = bb) ∧ Inv (c + 1) I2
set_option maxHeartbeats 4000000 in
set_option maxRecDepth 100000 in
theorem lc_fail {N L : Nat} {xs : Nat → Int32} {Inv : Nat → gI → Prop} (hst : St_fail N Inv) (d : Nat) (hd : 40 ≤ d) {rc rs i c : Nat} {S : gS} {I : gI} {J : gJ} (hi : i + 6 ≤ L) (hL : L ≤ 3072) (hS : Sh S) (hc : c < 512) (hI : Inv c I)
    (kk : ∀ S' I' J', Sh S' → Inv (c + 1) I' → Wp RL cL_law 7 (some .boolean) [] (hLw L xs) d rc rs 2133 [(0, .ref (gSB + 300)), (1, .ref 0), (2, .ref 310), (3, .ref 337), (4, .int (Int32.ofNat i))] [] S' I' J' QL) : Wp RL cL_law 7 (some .boolean) [] (hLw L xs) d (rc + 1) (rs + 6) 1041 [(0, .ref (gSB + 300)), (1, .ref 0), (2, .ref 310), (3, .ref 337), (4, .int (Int32.ofNat i))] [] S I J QL := by
  obtain ⟨rv, I1, bb, I2, h1, hE, h2, ht, hv, hI2⟩ := hst c I J (xs (Int32.ofNat i + 1).toNatClampNeg) hc hI
  refine wp_aload_n dL_law_1041 rfl rfl ?_
  refine wp_aload_n dL_law_1042 rfl rfl ?_
  refine wp_iload dL_law_1043 rfl ?_
  refine wp_iconst (v := 1) dL_law_1045 (by decide) ?_
  refine wp_iadd dL_law_1046 ?_
  refine wp_sld dL_law_1047 (sx 1 (by decide) hi hL) ?_
  refine wp_aload_n dL_law_1048 rfl rfl ?_
  refine wp_callSW (As := [.ref 0, .int (xs (Int32.ofNat i + 1).toNatClampNeg), .ref 337]) dL_law_1049 lwL_fail mlL_156 smL_fail (ct_L_fail N 11 (Nat.le_refl _) hS h1 hE) rfl rfl (Nat.le_trans (by decide) hd) (Nat.le_of_ble_eq_true rfl) (fun _ _ _ _ h => h.2.2.2) (fun _ => ?_)
  show Wp RL cL_law 7 (some .boolean) [] (hLw L xs) d rc rs 1052 [(0, .ref (gSB + 300)), (1, .ref 0), (2, .ref 310), (3, .ref 337), (4, .int (Int32.ofNat i))] [.int (kL1 rv)] S I1 (jL rv J) QL
  refine wp_istore (ls' := [(5, .int (kL1 rv)), (0, .ref (gSB + 300)), (1, .ref 0), (2, .ref 310), (3, .ref 337), (4, .int (Int32.ofNat i))]) dL_law_1052 (Nat.le_of_ble_eq_true rfl) rfl ?_
  refine wp_aload_n dL_law_1054 rfl rfl ?_
  refine wp_aload_n dL_law_1055 rfl rfl ?_
  refine wp_iload dL_law_1056 rfl ?_
  refine wp_iconst (v := 1) dL_law_1058 (by decide) ?_
  refine wp_iadd dL_law_1059 ?_
  refine wp_sld dL_law_1060 (sx 1 (by decide) hi hL) ?_
  refine wp_callVi (ci := 11) (As := [.int (xs (Int32.ofNat i + 1).toNatClampNeg)]) dL_law_1061 lbX11_fail mlL_158 imX11_fail seX11_fail vc11 (ct_X11_fail N 7 (Nat.le_refl _) hS h2) rfl rfl (Nat.le_trans (by decide) hd) (sk310 hS) (sn310 hS) (Nat.le_of_ble_eq_true rfl) (fun _ => ?_)
  show Wp RL cL_law 7 (some .boolean) [] (hLw L xs) d rc rs 1064 [(5, .int (kL1 rv)), (0, .ref (gSB + 300)), (1, .ref 0), (2, .ref 310), (3, .ref 337), (4, .int (Int32.ofNat i))] [.int bb] S I2 (jL rv J) QL
  refine wp_istore (ls' := [(6, .int bb), (5, .int (kL1 rv)), (0, .ref (gSB + 300)), (1, .ref 0), (2, .ref 310), (3, .ref 337), (4, .int (Int32.ofNat i))]) dL_law_1064 (Nat.le_of_ble_eq_true rfl) rfl ?_
  refine wp_aload_n dL_law_1066 rfl rfl ?_
  refine wp_callVi (ci := 11) (As := []) dL_law_1067 lbX11_thrown mlL_114 imX11_thrown seX11_thrown vc11 (ct_X11_thrown 0 (Nat.le_refl _) hS tm_thrown) rfl rfl (Nat.le_trans (by decide) hd) (sk310 hS) (sn310 hS) (Nat.le_of_ble_eq_true rfl) (fun _ => ?_)
  refine wp_iload dL_law_1070 rfl ?_
  refine wp_icmp_eq (tgt := 1077) dL_law_1072 (by decide) (fun _ => ?_) (fun hc => absurd ht hc)
  refine wp_iload dL_law_1077 rfl ?_
  refine wp_if_ne (tgt := 1094) dL_law_1079 (by decide) (fun _ => ?_) (fun hc => ?_)
  · refine wp_goto (tgt := 2133) dL_law_1094 (by decide) ?_
    exact wp_pick (ks := [2, 3, 4, 5, 6]) rfl (kk _ _ _ hS hI2)
  · have hk0 : kL1 rv = 0 := hc
    obtain ⟨v, rfl⟩ := kl1 hk0
    have hvb := hv v rfl
    refine wp_aload_n dL_law_1082 rfl rfl ?_
    refine wp_iconst (v := 0) dL_law_1083 (by decide) ?_
    refine wp_lald (n := 1) dL_law_1084 (sk337 hS) (sn337 hS) (inb_in (by decide)) ?_
    refine wp_iload dL_law_1085 rfl ?_
    refine wp_i2l dL_law_1087 ?_
    refine wp_lcmp dL_law_1088 ?_
    refine wp_if_eq (tgt := 1094) dL_law_1089 (by decide) (fun _ => ?_) (fun hc9 => absurd (lgc (by show (jL (.inl v) J) 337 0 = bb.toInt64; rw [jL_at, hvb])) hc9)
    refine wp_goto (tgt := 2133) dL_law_1094 (by decide) ?_
    exact wp_pick (ks := [2, 3, 4, 5, 6]) rfl (kk _ _ _ hS hI2)
def St_mend (N : Nat) (Inv : Nat → gI → Prop) : Prop := ∀ (c : Nat) (I : gI) (J : gJ) (a1 : Int32), c < 512 → Inv c I → ∃ (rv : Int32 ⊕ String) (I1 : gI) (bb : Int32) (I2 : gI), mX10_mend N a1 I = some (rv, I1) ∧ (∀ E, rv = .inr E → E = xnN) ∧ mX11_mend N a1 I1 = some (bb, I2) ∧ I2 310 0 = kL1 rv ∧ (∀ v, rv = .inl v → v = bb) ∧ Inv (c + 1) I2
set_option maxHeartbeats 4000000 in
set_option maxRecDepth 100000 in
theorem lc_mend {N L : Nat} {xs : Nat → Int32} {Inv : Nat → gI → Prop} (hst : St_mend N Inv) (d : Nat) (hd : 40 ≤ d) {rc rs i c : Nat} {S : gS} {I : gI} {J : gJ} (hi : i + 6 ≤ L) (hL : L ≤ 3072) (hS : Sh S) (hc : c < 512) (hI : Inv c I)
    (kk : ∀ S' I' J', Sh S' → Inv (c + 1) I' → Wp RL cL_law 7 (some .boolean) [] (hLw L xs) d rc rs 2133 [(0, .ref (gSB + 300)), (1, .ref 0), (2, .ref 310), (3, .ref 337), (4, .int (Int32.ofNat i))] [] S' I' J' QL) : Wp RL cL_law 7 (some .boolean) [] (hLw L xs) d (rc + 1) (rs + 6) 1097 [(0, .ref (gSB + 300)), (1, .ref 0), (2, .ref 310), (3, .ref 337), (4, .int (Int32.ofNat i))] [] S I J QL := by
  obtain ⟨rv, I1, bb, I2, h1, hE, h2, ht, hv, hI2⟩ := hst c I J (xs (Int32.ofNat i + 1).toNatClampNeg) hc hI
  refine wp_aload_n dL_law_1097 rfl rfl ?_
  refine wp_aload_n dL_law_1098 rfl rfl ?_
  refine wp_iload dL_law_1099 rfl ?_
  refine wp_iconst (v := 1) dL_law_1101 (by decide) ?_
  refine wp_iadd dL_law_1102 ?_
  refine wp_sld dL_law_1103 (sx 1 (by decide) hi hL) ?_
  refine wp_aload_n dL_law_1104 rfl rfl ?_
  refine wp_callSW (As := [.ref 0, .int (xs (Int32.ofNat i + 1).toNatClampNeg), .ref 337]) dL_law_1105 lwL_mend mlL_159 smL_mend (ct_L_mend N 11 (Nat.le_refl _) hS h1 hE) rfl rfl (Nat.le_trans (by decide) hd) (Nat.le_of_ble_eq_true rfl) (fun _ _ _ _ h => h.2.2.2) (fun _ => ?_)
  show Wp RL cL_law 7 (some .boolean) [] (hLw L xs) d rc rs 1108 [(0, .ref (gSB + 300)), (1, .ref 0), (2, .ref 310), (3, .ref 337), (4, .int (Int32.ofNat i))] [.int (kL1 rv)] S I1 (jB rv J) QL
  refine wp_istore (ls' := [(5, .int (kL1 rv)), (0, .ref (gSB + 300)), (1, .ref 0), (2, .ref 310), (3, .ref 337), (4, .int (Int32.ofNat i))]) dL_law_1108 (Nat.le_of_ble_eq_true rfl) rfl ?_
  refine wp_aload_n dL_law_1110 rfl rfl ?_
  refine wp_aload_n dL_law_1111 rfl rfl ?_
  refine wp_iload dL_law_1112 rfl ?_
  refine wp_iconst (v := 1) dL_law_1114 (by decide) ?_
  refine wp_iadd dL_law_1115 ?_
  refine wp_sld dL_law_1116 (sx 1 (by decide) hi hL) ?_
  refine wp_callVi (ci := 11) (As := [.int (xs (Int32.ofNat i + 1).toNatClampNeg)]) dL_law_1117 lbX11_mend mlL_161 imX11_mend seX11_mend vc11 (ct_X11_mend N 2 (Nat.le_refl _) hS h2) rfl rfl (Nat.le_trans (by decide) hd) (sk310 hS) (sn310 hS) (Nat.le_of_ble_eq_true rfl) (fun _ => ?_)
  show Wp RL cL_law 7 (some .boolean) [] (hLw L xs) d rc rs 1120 [(5, .int (kL1 rv)), (0, .ref (gSB + 300)), (1, .ref 0), (2, .ref 310), (3, .ref 337), (4, .int (Int32.ofNat i))] [.int bb] S I2 (jB rv J) QL
  refine wp_istore (ls' := [(6, .int bb), (5, .int (kL1 rv)), (0, .ref (gSB + 300)), (1, .ref 0), (2, .ref 310), (3, .ref 337), (4, .int (Int32.ofNat i))]) dL_law_1120 (Nat.le_of_ble_eq_true rfl) rfl ?_
  refine wp_aload_n dL_law_1122 rfl rfl ?_
  refine wp_callVi (ci := 11) (As := []) dL_law_1123 lbX11_thrown mlL_114 imX11_thrown seX11_thrown vc11 (ct_X11_thrown 0 (Nat.le_refl _) hS tm_thrown) rfl rfl (Nat.le_trans (by decide) hd) (sk310 hS) (sn310 hS) (Nat.le_of_ble_eq_true rfl) (fun _ => ?_)
  refine wp_iload dL_law_1126 rfl ?_
  refine wp_icmp_eq (tgt := 1133) dL_law_1128 (by decide) (fun _ => ?_) (fun hc => absurd ht hc)
  refine wp_iload dL_law_1133 rfl ?_
  refine wp_if_ne (tgt := 1157) dL_law_1135 (by decide) (fun _ => ?_) (fun hc => ?_)
  · refine wp_goto (tgt := 2133) dL_law_1157 (by decide) ?_
    exact wp_pick (ks := [2, 3, 4, 5, 6]) rfl (kk _ _ _ hS hI2)
  · have hk0 : kL1 rv = 0 := hc
    obtain ⟨v, rfl⟩ := kl1 hk0
    have hvb := hv v rfl
    refine wp_aload_n dL_law_1138 rfl rfl ?_
    refine wp_iconst (v := 0) dL_law_1139 (by decide) ?_
    refine wp_lald (n := 1) dL_law_1140 (sk337 hS) (sn337 hS) (inb_in (by decide)) ?_
    refine wp_iload dL_law_1141 rfl ?_
    refine wp_if_eq (tgt := 1150) dL_law_1143 (by decide) (fun hb0 => ?_) (fun hb0 => ?_)
    · refine wp_lconst (v := 0) dL_law_1150 (by decide) ?_
      refine wp_lcmp dL_law_1151 ?_
      refine wp_if_eq (tgt := 1157) dL_law_1152 (by decide) (fun _ => ?_) (fun hc9 => absurd (lgc (by show (jB (.inl v) J) 337 0 = 0; rw [jB_at, hvb, if_pos hb0])) hc9)
      refine wp_goto (tgt := 2133) dL_law_1157 (by decide) ?_
      exact wp_pick (ks := [2, 3, 4, 5, 6]) rfl (kk _ _ _ hS hI2)
    · refine wp_lconst (v := 1) dL_law_1146 (by decide) ?_
      refine wp_goto (tgt := 1151) dL_law_1147 (by decide) ?_
      refine wp_lcmp dL_law_1151 ?_
      refine wp_if_eq (tgt := 1157) dL_law_1152 (by decide) (fun _ => ?_) (fun hc9 => absurd (lgc (by show (jB (.inl v) J) 337 0 = 1; rw [jB_at, hvb, if_neg hb0])) hc9)
      refine wp_goto (tgt := 2133) dL_law_1157 (by decide) ?_
      exact wp_pick (ks := [2, 3, 4, 5, 6]) rfl (kk _ _ _ hS hI2)
def St_undo (N : Nat) (Inv : Nat → gI → Prop) : Prop := ∀ (c : Nat) (I : gI) (J : gJ) , c < 512 → Inv c I → ∃ (rr : Int32) (I1 : gI) (I2 : gI), mX10_undo N I = some (rr, I1) ∧ mX11_undo N I1 = some (rr, I2) ∧ Inv (c + 1) I2
set_option maxHeartbeats 4000000 in
set_option maxRecDepth 100000 in
theorem lc_undo {N L : Nat} {xs : Nat → Int32} {Inv : Nat → gI → Prop} (hst : St_undo N Inv) (d : Nat) (hd : 40 ≤ d) {rc rs i c : Nat} {S : gS} {I : gI} {J : gJ} (hi : i + 6 ≤ L) (hL : L ≤ 3072) (hS : Sh S) (hc : c < 512) (hI : Inv c I)
    (kk : ∀ S' I' J', Sh S' → Inv (c + 1) I' → Wp RL cL_law 7 (some .boolean) [] (hLw L xs) d rc rs 2133 [(0, .ref (gSB + 300)), (1, .ref 0), (2, .ref 310), (3, .ref 337), (4, .int (Int32.ofNat i))] [] S' I' J' QL) : Wp RL cL_law 7 (some .boolean) [] (hLw L xs) d rc rs 1160 [(0, .ref (gSB + 300)), (1, .ref 0), (2, .ref 310), (3, .ref 337), (4, .int (Int32.ofNat i))] [] S I J QL := by
  obtain ⟨rr, I1, I2, h1, h2, hI2⟩ := hst c I J  hc hI
  refine wp_aload_n dL_law_1160 rfl rfl ?_
  refine wp_callVi (ci := 10) (As := []) dL_law_1161 lbX10_undo mlL_162 imX10_undo seX10_undo vc10 (ct_X10_undo N 2 (Nat.le_refl _) hS h1) rfl rfl (Nat.le_trans (by decide) hd) (sk0 hS) (sn0 hS) (Nat.le_of_ble_eq_true rfl) (fun _ => ?_)
  refine wp_aload_n dL_law_1164 rfl rfl ?_
  refine wp_callVi (ci := 11) (As := []) dL_law_1165 lbX11_undo mlL_165 imX11_undo seX11_undo vc11 (ct_X11_undo N 0 (Nat.le_refl _) hS h2) rfl rfl (Nat.le_trans (by decide) hd) (sk310 hS) (sn310 hS) (Nat.le_of_ble_eq_true rfl) (fun _ => ?_)
  refine wp_icmp_eq (tgt := 2133) dL_law_1168 (by decide) (fun _ => ?_) (fun hc => absurd rfl hc)
  exact kk _ _ _ hS hI2
def St_planned (N : Nat) (Inv : Nat → gI → Prop) : Prop := ∀ (c : Nat) (I : gI) (J : gJ) (a1 a2 : Int32), c < 512 → Inv c I → ∃ (rv : Int32 ⊕ String) (I1 : gI) (bb : Int32) (I2 : gI), mX10_planned N a1 a2 I = some (rv, I1) ∧ (∀ E, rv = .inr E → E = xnN) ∧ mX11_planned N a1 a2 I1 = some (bb, I2) ∧ I2 310 0 = kL1 rv ∧ (∀ v, rv = .inl v → v = bb) ∧ Inv (c + 1) I2
set_option maxHeartbeats 4000000 in
set_option maxRecDepth 100000 in
theorem lc_planned {N L : Nat} {xs : Nat → Int32} {Inv : Nat → gI → Prop} (hst : St_planned N Inv) (d : Nat) (hd : 40 ≤ d) {rc rs i c : Nat} {S : gS} {I : gI} {J : gJ} (hi : i + 6 ≤ L) (hL : L ≤ 3072) (hS : Sh S) (hc : c < 512) (hI : Inv c I)
    (kk : ∀ S' I' J', Sh S' → Inv (c + 1) I' → Wp RL cL_law 7 (some .boolean) [] (hLw L xs) d rc rs 2133 [(0, .ref (gSB + 300)), (1, .ref 0), (2, .ref 310), (3, .ref 337), (4, .int (Int32.ofNat i))] [] S' I' J' QL) : Wp RL cL_law 7 (some .boolean) [] (hLw L xs) d (rc + 2) (rs + 12) 1173 [(0, .ref (gSB + 300)), (1, .ref 0), (2, .ref 310), (3, .ref 337), (4, .int (Int32.ofNat i))] [] S I J QL := by
  obtain ⟨rv, I1, bb, I2, h1, hE, h2, ht, hv, hI2⟩ := hst c I J (xs (Int32.ofNat i + 1).toNatClampNeg) (xs (Int32.ofNat i + 2).toNatClampNeg) hc hI
  refine wp_aload_n dL_law_1173 rfl rfl ?_
  refine wp_aload_n dL_law_1174 rfl rfl ?_
  refine wp_iload dL_law_1175 rfl ?_
  refine wp_iconst (v := 1) dL_law_1177 (by decide) ?_
  refine wp_iadd dL_law_1178 ?_
  refine wp_sld dL_law_1179 (sx 1 (by decide) hi hL) ?_
  refine wp_aload_n dL_law_1180 rfl rfl ?_
  refine wp_iload dL_law_1181 rfl ?_
  refine wp_iconst (v := 2) dL_law_1183 (by decide) ?_
  refine wp_iadd dL_law_1184 ?_
  refine wp_sld dL_law_1185 (sx 2 (by decide) hi hL) ?_
  refine wp_aload_n dL_law_1186 rfl rfl ?_
  refine wp_callSW (As := [.ref 0, .int (xs (Int32.ofNat i + 1).toNatClampNeg), .int (xs (Int32.ofNat i + 2).toNatClampNeg), .ref 337]) dL_law_1187 lwL_planned mlL_166 smL_planned (ct_L_planned N 11 (Nat.le_refl _) hS h1 hE) rfl rfl (Nat.le_trans (by decide) hd) (Nat.le_of_ble_eq_true rfl) (fun _ _ _ _ h => h.2.2.2) (fun _ => ?_)
  show Wp RL cL_law 7 (some .boolean) [] (hLw L xs) d rc rs 1190 [(0, .ref (gSB + 300)), (1, .ref 0), (2, .ref 310), (3, .ref 337), (4, .int (Int32.ofNat i))] [.int (kL1 rv)] S I1 (jL rv J) QL
  refine wp_istore (ls' := [(5, .int (kL1 rv)), (0, .ref (gSB + 300)), (1, .ref 0), (2, .ref 310), (3, .ref 337), (4, .int (Int32.ofNat i))]) dL_law_1190 (Nat.le_of_ble_eq_true rfl) rfl ?_
  refine wp_aload_n dL_law_1192 rfl rfl ?_
  refine wp_aload_n dL_law_1193 rfl rfl ?_
  refine wp_iload dL_law_1194 rfl ?_
  refine wp_iconst (v := 1) dL_law_1196 (by decide) ?_
  refine wp_iadd dL_law_1197 ?_
  refine wp_sld dL_law_1198 (sx 1 (by decide) hi hL) ?_
  refine wp_aload_n dL_law_1199 rfl rfl ?_
  refine wp_iload dL_law_1200 rfl ?_
  refine wp_iconst (v := 2) dL_law_1202 (by decide) ?_
  refine wp_iadd dL_law_1203 ?_
  refine wp_sld dL_law_1204 (sx 2 (by decide) hi hL) ?_
  refine wp_callVi (ci := 11) (As := [.int (xs (Int32.ofNat i + 1).toNatClampNeg), .int (xs (Int32.ofNat i + 2).toNatClampNeg)]) dL_law_1205 lbX11_planned mlL_168 imX11_planned seX11_planned vc11 (ct_X11_planned N 4 (Nat.le_refl _) hS h2) rfl rfl (Nat.le_trans (by decide) hd) (sk310 hS) (sn310 hS) (Nat.le_of_ble_eq_true rfl) (fun _ => ?_)
  show Wp RL cL_law 7 (some .boolean) [] (hLw L xs) d rc rs 1208 [(5, .int (kL1 rv)), (0, .ref (gSB + 300)), (1, .ref 0), (2, .ref 310), (3, .ref 337), (4, .int (Int32.ofNat i))] [.int bb] S I2 (jL rv J) QL
  refine wp_istore (ls' := [(6, .int bb), (5, .int (kL1 rv)), (0, .ref (gSB + 300)), (1, .ref 0), (2, .ref 310), (3, .ref 337), (4, .int (Int32.ofNat i))]) dL_law_1208 (Nat.le_of_ble_eq_true rfl) rfl ?_
  refine wp_aload_n dL_law_1210 rfl rfl ?_
  refine wp_callVi (ci := 11) (As := []) dL_law_1211 lbX11_thrown mlL_114 imX11_thrown seX11_thrown vc11 (ct_X11_thrown 0 (Nat.le_refl _) hS tm_thrown) rfl rfl (Nat.le_trans (by decide) hd) (sk310 hS) (sn310 hS) (Nat.le_of_ble_eq_true rfl) (fun _ => ?_)
  refine wp_iload dL_law_1214 rfl ?_
  refine wp_icmp_eq (tgt := 1221) dL_law_1216 (by decide) (fun _ => ?_) (fun hc => absurd ht hc)
  refine wp_iload dL_law_1221 rfl ?_
  refine wp_if_ne (tgt := 1238) dL_law_1223 (by decide) (fun _ => ?_) (fun hc => ?_)
  · refine wp_goto (tgt := 2133) dL_law_1238 (by decide) ?_
    exact wp_pick (ks := [2, 3, 4, 5, 6]) rfl (kk _ _ _ hS hI2)
  · have hk0 : kL1 rv = 0 := hc
    obtain ⟨v, rfl⟩ := kl1 hk0
    have hvb := hv v rfl
    refine wp_aload_n dL_law_1226 rfl rfl ?_
    refine wp_iconst (v := 0) dL_law_1227 (by decide) ?_
    refine wp_lald (n := 1) dL_law_1228 (sk337 hS) (sn337 hS) (inb_in (by decide)) ?_
    refine wp_iload dL_law_1229 rfl ?_
    refine wp_i2l dL_law_1231 ?_
    refine wp_lcmp dL_law_1232 ?_
    refine wp_if_eq (tgt := 1238) dL_law_1233 (by decide) (fun _ => ?_) (fun hc9 => absurd (lgc (by show (jL (.inl v) J) 337 0 = bb.toInt64; rw [jL_at, hvb])) hc9)
    refine wp_goto (tgt := 2133) dL_law_1238 (by decide) ?_
    exact wp_pick (ks := [2, 3, 4, 5, 6]) rfl (kk _ _ _ hS hI2)
def St_order (N : Nat) (Inv : Nat → gI → Prop) : Prop := ∀ (c : Nat) (I : gI) (J : gJ) (a1 : Int32), c < 512 → Inv c I → ∃ (rv : Int32 ⊕ String) (I1 : gI) (bb : Int32) (I2 : gI), mX10_order N a1 I = some (rv, I1) ∧ (∀ E, rv = .inr E → E = xnN) ∧ mX11_order N a1 I1 = some (bb, I2) ∧ I2 310 0 = kL1 rv ∧ (∀ v, rv = .inl v → v = bb) ∧ Inv (c + 1) I2
set_option maxHeartbeats 4000000 in
set_option maxRecDepth 100000 in
theorem lc_order {N L : Nat} {xs : Nat → Int32} {Inv : Nat → gI → Prop} (hst : St_order N Inv) (d : Nat) (hd : 40 ≤ d) {rc rs i c : Nat} {S : gS} {I : gI} {J : gJ} (hi : i + 6 ≤ L) (hL : L ≤ 3072) (hS : Sh S) (hc : c < 512) (hI : Inv c I)
    (kk : ∀ S' I' J', Sh S' → Inv (c + 1) I' → Wp RL cL_law 7 (some .boolean) [] (hLw L xs) d rc rs 2133 [(0, .ref (gSB + 300)), (1, .ref 0), (2, .ref 310), (3, .ref 337), (4, .int (Int32.ofNat i))] [] S' I' J' QL) : Wp RL cL_law 7 (some .boolean) [] (hLw L xs) d (rc + 1) (rs + 6) 1241 [(0, .ref (gSB + 300)), (1, .ref 0), (2, .ref 310), (3, .ref 337), (4, .int (Int32.ofNat i))] [] S I J QL := by
  obtain ⟨rv, I1, bb, I2, h1, hE, h2, ht, hv, hI2⟩ := hst c I J (xs (Int32.ofNat i + 1).toNatClampNeg) hc hI
  refine wp_aload_n dL_law_1241 rfl rfl ?_
  refine wp_aload_n dL_law_1242 rfl rfl ?_
  refine wp_iload dL_law_1243 rfl ?_
  refine wp_iconst (v := 1) dL_law_1245 (by decide) ?_
  refine wp_iadd dL_law_1246 ?_
  refine wp_sld dL_law_1247 (sx 1 (by decide) hi hL) ?_
  refine wp_aload_n dL_law_1248 rfl rfl ?_
  refine wp_callSW (As := [.ref 0, .int (xs (Int32.ofNat i + 1).toNatClampNeg), .ref 337]) dL_law_1249 lwL_order mlL_169 smL_order (ct_L_order N 17 (Nat.le_refl _) hS h1 hE) rfl rfl (Nat.le_trans (by decide) hd) (Nat.le_of_ble_eq_true rfl) (fun _ _ _ _ h => h.2.2.2) (fun _ => ?_)
  show Wp RL cL_law 7 (some .boolean) [] (hLw L xs) d rc rs 1252 [(0, .ref (gSB + 300)), (1, .ref 0), (2, .ref 310), (3, .ref 337), (4, .int (Int32.ofNat i))] [.int (kL1 rv)] S I1 (jL rv J) QL
  refine wp_istore (ls' := [(5, .int (kL1 rv)), (0, .ref (gSB + 300)), (1, .ref 0), (2, .ref 310), (3, .ref 337), (4, .int (Int32.ofNat i))]) dL_law_1252 (Nat.le_of_ble_eq_true rfl) rfl ?_
  refine wp_aload_n dL_law_1254 rfl rfl ?_
  refine wp_aload_n dL_law_1255 rfl rfl ?_
  refine wp_iload dL_law_1256 rfl ?_
  refine wp_iconst (v := 1) dL_law_1258 (by decide) ?_
  refine wp_iadd dL_law_1259 ?_
  refine wp_sld dL_law_1260 (sx 1 (by decide) hi hL) ?_
  refine wp_callVi (ci := 11) (As := [.int (xs (Int32.ofNat i + 1).toNatClampNeg)]) dL_law_1261 lbX11_order mlL_171 imX11_order seX11_order vc11 (ct_X11_order N 4 (Nat.le_refl _) hS h2) rfl rfl (Nat.le_trans (by decide) hd) (sk310 hS) (sn310 hS) (Nat.le_of_ble_eq_true rfl) (fun _ => ?_)
  show Wp RL cL_law 7 (some .boolean) [] (hLw L xs) d rc rs 1264 [(5, .int (kL1 rv)), (0, .ref (gSB + 300)), (1, .ref 0), (2, .ref 310), (3, .ref 337), (4, .int (Int32.ofNat i))] [.int bb] S I2 (jL rv J) QL
  refine wp_istore (ls' := [(6, .int bb), (5, .int (kL1 rv)), (0, .ref (gSB + 300)), (1, .ref 0), (2, .ref 310), (3, .ref 337), (4, .int (Int32.ofNat i))]) dL_law_1264 (Nat.le_of_ble_eq_true rfl) rfl ?_
  refine wp_aload_n dL_law_1266 rfl rfl ?_
  refine wp_callVi (ci := 11) (As := []) dL_law_1267 lbX11_thrown mlL_114 imX11_thrown seX11_thrown vc11 (ct_X11_thrown 0 (Nat.le_refl _) hS tm_thrown) rfl rfl (Nat.le_trans (by decide) hd) (sk310 hS) (sn310 hS) (Nat.le_of_ble_eq_true rfl) (fun _ => ?_)
  refine wp_iload dL_law_1270 rfl ?_
  refine wp_icmp_eq (tgt := 1277) dL_law_1272 (by decide) (fun _ => ?_) (fun hc => absurd ht hc)
  refine wp_iload dL_law_1277 rfl ?_
  refine wp_if_ne (tgt := 1294) dL_law_1279 (by decide) (fun _ => ?_) (fun hc => ?_)
  · refine wp_goto (tgt := 2133) dL_law_1294 (by decide) ?_
    exact wp_pick (ks := [2, 3, 4, 5, 6]) rfl (kk _ _ _ hS hI2)
  · have hk0 : kL1 rv = 0 := hc
    obtain ⟨v, rfl⟩ := kl1 hk0
    have hvb := hv v rfl
    refine wp_aload_n dL_law_1282 rfl rfl ?_
    refine wp_iconst (v := 0) dL_law_1283 (by decide) ?_
    refine wp_lald (n := 1) dL_law_1284 (sk337 hS) (sn337 hS) (inb_in (by decide)) ?_
    refine wp_iload dL_law_1285 rfl ?_
    refine wp_i2l dL_law_1287 ?_
    refine wp_lcmp dL_law_1288 ?_
    refine wp_if_eq (tgt := 1294) dL_law_1289 (by decide) (fun _ => ?_) (fun hc9 => absurd (lgc (by show (jL (.inl v) J) 337 0 = bb.toInt64; rw [jL_at, hvb])) hc9)
    refine wp_goto (tgt := 2133) dL_law_1294 (by decide) ?_
    exact wp_pick (ks := [2, 3, 4, 5, 6]) rfl (kk _ _ _ hS hI2)
def St_toBreak (N : Nat) (Inv : Nat → gI → Prop) : Prop := ∀ (c : Nat) (I : gI) (J : gJ) , c < 512 → Inv c I → ∃ (rr : Int32) (I1 : gI) (I2 : gI), mX10_toBreak N I = some (rr, I1) ∧ mX11_toBreak N I1 = some (rr, I2) ∧ Inv (c + 1) I2
set_option maxHeartbeats 4000000 in
set_option maxRecDepth 100000 in
theorem lc_toBreak {N L : Nat} {xs : Nat → Int32} {Inv : Nat → gI → Prop} (hst : St_toBreak N Inv) (d : Nat) (hd : 40 ≤ d) {rc rs i c : Nat} {S : gS} {I : gI} {J : gJ} (hi : i + 6 ≤ L) (hL : L ≤ 3072) (hS : Sh S) (hc : c < 512) (hI : Inv c I)
    (kk : ∀ S' I' J', Sh S' → Inv (c + 1) I' → Wp RL cL_law 7 (some .boolean) [] (hLw L xs) d rc rs 2133 [(0, .ref (gSB + 300)), (1, .ref 0), (2, .ref 310), (3, .ref 337), (4, .int (Int32.ofNat i))] [] S' I' J' QL) : Wp RL cL_law 7 (some .boolean) [] (hLw L xs) d rc rs 1297 [(0, .ref (gSB + 300)), (1, .ref 0), (2, .ref 310), (3, .ref 337), (4, .int (Int32.ofNat i))] [] S I J QL := by
  obtain ⟨rr, I1, I2, h1, h2, hI2⟩ := hst c I J  hc hI
  refine wp_aload_n dL_law_1297 rfl rfl ?_
  refine wp_callVi (ci := 10) (As := []) dL_law_1298 lbX10_toBreak mlL_172 imX10_toBreak seX10_toBreak vc10 (ct_X10_toBreak N 16 (Nat.le_refl _) hS h1) rfl rfl (Nat.le_trans (by decide) hd) (sk0 hS) (sn0 hS) (Nat.le_of_ble_eq_true rfl) (fun _ => ?_)
  refine wp_aload_n dL_law_1301 rfl rfl ?_
  refine wp_callVi (ci := 11) (As := []) dL_law_1302 lbX11_toBreak mlL_175 imX11_toBreak seX11_toBreak vc11 (ct_X11_toBreak N 4 (Nat.le_refl _) hS h2) rfl rfl (Nat.le_trans (by decide) hd) (sk310 hS) (sn310 hS) (Nat.le_of_ble_eq_true rfl) (fun _ => ?_)
  refine wp_icmp_eq (tgt := 2133) dL_law_1305 (by decide) (fun _ => ?_) (fun hc => absurd rfl hc)
  exact kk _ _ _ hS hI2
def St_widest (N : Nat) (Inv : Nat → gI → Prop) : Prop := ∀ (c : Nat) (I : gI) (J : gJ) (a1 a2 a3 : Int32), c < 512 → Inv c I → ∃ (rv : Int32 ⊕ String) (I1 : gI) (bb : Int32) (I2 : gI), mX10_widest N a1 a2 a3 I = some (rv, I1) ∧ (∀ E, rv = .inr E → E = xnN ∨ E = xnA) ∧ mX11_widest N a1 a2 a3 I1 = some (bb, I2) ∧ I2 310 0 = kL2 rv ∧ (∀ v, rv = .inl v → v = bb) ∧ Inv (c + 1) I2
set_option maxHeartbeats 4000000 in
set_option maxRecDepth 100000 in
theorem lc_widest {N L : Nat} {xs : Nat → Int32} {Inv : Nat → gI → Prop} (hst : St_widest N Inv) (d : Nat) (hd : 40 ≤ d) {rc rs i c : Nat} {S : gS} {I : gI} {J : gJ} (hi : i + 6 ≤ L) (hL : L ≤ 3072) (hS : Sh S) (hc : c < 512) (hI : Inv c I)
    (kk : ∀ S' I' J', Sh S' → Inv (c + 1) I' → Wp RL cL_law 7 (some .boolean) [] (hLw L xs) d rc rs 2133 [(0, .ref (gSB + 300)), (1, .ref 0), (2, .ref 310), (3, .ref 337), (4, .int (Int32.ofNat i))] [] S' I' J' QL) : Wp RL cL_law 7 (some .boolean) [] (hLw L xs) d (rc + 3) (rs + 18) 1310 [(0, .ref (gSB + 300)), (1, .ref 0), (2, .ref 310), (3, .ref 337), (4, .int (Int32.ofNat i))] [] S I J QL := by
  obtain ⟨rv, I1, bb, I2, h1, hE, h2, ht, hv, hI2⟩ := hst c I J (xs (Int32.ofNat i + 1).toNatClampNeg) (xs (Int32.ofNat i + 2).toNatClampNeg) (xs (Int32.ofNat i + 3).toNatClampNeg) hc hI
  refine wp_aload_n dL_law_1310 rfl rfl ?_
  refine wp_aload_n dL_law_1311 rfl rfl ?_
  refine wp_iload dL_law_1312 rfl ?_
  refine wp_iconst (v := 1) dL_law_1314 (by decide) ?_
  refine wp_iadd dL_law_1315 ?_
  refine wp_sld dL_law_1316 (sx 1 (by decide) hi hL) ?_
  refine wp_aload_n dL_law_1317 rfl rfl ?_
  refine wp_iload dL_law_1318 rfl ?_
  refine wp_iconst (v := 2) dL_law_1320 (by decide) ?_
  refine wp_iadd dL_law_1321 ?_
  refine wp_sld dL_law_1322 (sx 2 (by decide) hi hL) ?_
  refine wp_aload_n dL_law_1323 rfl rfl ?_
  refine wp_iload dL_law_1324 rfl ?_
  refine wp_iconst (v := 3) dL_law_1326 (by decide) ?_
  refine wp_iadd dL_law_1327 ?_
  refine wp_sld dL_law_1328 (sx 3 (by decide) hi hL) ?_
  refine wp_aload_n dL_law_1329 rfl rfl ?_
  refine wp_callSW (As := [.ref 0, .int (xs (Int32.ofNat i + 1).toNatClampNeg), .int (xs (Int32.ofNat i + 2).toNatClampNeg), .int (xs (Int32.ofNat i + 3).toNatClampNeg), .ref 337]) dL_law_1330 lwL_widest mlL_176 smL_widest (ct_L_widest N 11 (Nat.le_refl _) hS h1 hE) rfl rfl (Nat.le_trans (by decide) hd) (Nat.le_of_ble_eq_true rfl) (fun _ _ _ _ h => h.2.2.2) (fun _ => ?_)
  show Wp RL cL_law 7 (some .boolean) [] (hLw L xs) d rc rs 1333 [(0, .ref (gSB + 300)), (1, .ref 0), (2, .ref 310), (3, .ref 337), (4, .int (Int32.ofNat i))] [.int (kL2 rv)] S I1 (jL rv J) QL
  refine wp_istore (ls' := [(5, .int (kL2 rv)), (0, .ref (gSB + 300)), (1, .ref 0), (2, .ref 310), (3, .ref 337), (4, .int (Int32.ofNat i))]) dL_law_1333 (Nat.le_of_ble_eq_true rfl) rfl ?_
  refine wp_aload_n dL_law_1335 rfl rfl ?_
  refine wp_aload_n dL_law_1336 rfl rfl ?_
  refine wp_iload dL_law_1337 rfl ?_
  refine wp_iconst (v := 1) dL_law_1339 (by decide) ?_
  refine wp_iadd dL_law_1340 ?_
  refine wp_sld dL_law_1341 (sx 1 (by decide) hi hL) ?_
  refine wp_aload_n dL_law_1342 rfl rfl ?_
  refine wp_iload dL_law_1343 rfl ?_
  refine wp_iconst (v := 2) dL_law_1345 (by decide) ?_
  refine wp_iadd dL_law_1346 ?_
  refine wp_sld dL_law_1347 (sx 2 (by decide) hi hL) ?_
  refine wp_aload_n dL_law_1348 rfl rfl ?_
  refine wp_iload dL_law_1349 rfl ?_
  refine wp_iconst (v := 3) dL_law_1351 (by decide) ?_
  refine wp_iadd dL_law_1352 ?_
  refine wp_sld dL_law_1353 (sx 3 (by decide) hi hL) ?_
  refine wp_callVi (ci := 11) (As := [.int (xs (Int32.ofNat i + 1).toNatClampNeg), .int (xs (Int32.ofNat i + 2).toNatClampNeg), .int (xs (Int32.ofNat i + 3).toNatClampNeg)]) dL_law_1354 lbX11_widest mlL_179 imX11_widest seX11_widest vc11 (ct_X11_widest N 4 (Nat.le_refl _) hS h2) rfl rfl (Nat.le_trans (by decide) hd) (sk310 hS) (sn310 hS) (Nat.le_of_ble_eq_true rfl) (fun _ => ?_)
  show Wp RL cL_law 7 (some .boolean) [] (hLw L xs) d rc rs 1357 [(5, .int (kL2 rv)), (0, .ref (gSB + 300)), (1, .ref 0), (2, .ref 310), (3, .ref 337), (4, .int (Int32.ofNat i))] [.int bb] S I2 (jL rv J) QL
  refine wp_istore (ls' := [(6, .int bb), (5, .int (kL2 rv)), (0, .ref (gSB + 300)), (1, .ref 0), (2, .ref 310), (3, .ref 337), (4, .int (Int32.ofNat i))]) dL_law_1357 (Nat.le_of_ble_eq_true rfl) rfl ?_
  refine wp_aload_n dL_law_1359 rfl rfl ?_
  refine wp_callVi (ci := 11) (As := []) dL_law_1360 lbX11_thrown mlL_114 imX11_thrown seX11_thrown vc11 (ct_X11_thrown 0 (Nat.le_refl _) hS tm_thrown) rfl rfl (Nat.le_trans (by decide) hd) (sk310 hS) (sn310 hS) (Nat.le_of_ble_eq_true rfl) (fun _ => ?_)
  refine wp_iload dL_law_1363 rfl ?_
  refine wp_icmp_eq (tgt := 1370) dL_law_1365 (by decide) (fun _ => ?_) (fun hc => absurd ht hc)
  refine wp_iload dL_law_1370 rfl ?_
  refine wp_if_ne (tgt := 1387) dL_law_1372 (by decide) (fun _ => ?_) (fun hc => ?_)
  · refine wp_goto (tgt := 2133) dL_law_1387 (by decide) ?_
    exact wp_pick (ks := [2, 3, 4, 5, 6]) rfl (kk _ _ _ hS hI2)
  · have hk0 : kL2 rv = 0 := hc
    obtain ⟨v, rfl⟩ := kl2 hk0
    have hvb := hv v rfl
    refine wp_aload_n dL_law_1375 rfl rfl ?_
    refine wp_iconst (v := 0) dL_law_1376 (by decide) ?_
    refine wp_lald (n := 1) dL_law_1377 (sk337 hS) (sn337 hS) (inb_in (by decide)) ?_
    refine wp_iload dL_law_1378 rfl ?_
    refine wp_i2l dL_law_1380 ?_
    refine wp_lcmp dL_law_1381 ?_
    refine wp_if_eq (tgt := 1387) dL_law_1382 (by decide) (fun _ => ?_) (fun hc9 => absurd (lgc (by show (jL (.inl v) J) 337 0 = bb.toInt64; rw [jL_at, hvb])) hc9)
    refine wp_goto (tgt := 2133) dL_law_1387 (by decide) ?_
    exact wp_pick (ks := [2, 3, 4, 5, 6]) rfl (kk _ _ _ hS hI2)
def St_apart (N : Nat) (Inv : Nat → gI → Prop) : Prop := ∀ (c : Nat) (I : gI) (J : gJ) (n9 : Nat) (a1 : Int32), c < 512 → Inv c I → 338 ≤ n9 → ∃ (rv : Int32 ⊕ String) (I1 : gI) (J1 : gJ) (bb : Int32) (I2 : gI), mX10_apart N n9 a1 I J = some (rv, I1, J1) ∧ (∀ E, rv = .inr E → E = xnN) ∧ mX11_apart N a1 I1 = some (bb, I2) ∧ I2 310 0 = kL1 rv ∧ (∀ v, rv = .inl v → v = bb) ∧ Inv (c + 1) I2
set_option maxHeartbeats 4000000 in
set_option maxRecDepth 100000 in
theorem lc_apart {N L : Nat} {xs : Nat → Int32} {Inv : Nat → gI → Prop} (hst : St_apart N Inv) (d : Nat) (hd : 40 ≤ d) {rc rs i c : Nat} {S : gS} {I : gI} {J : gJ} (hi : i + 6 ≤ L) (hL : L ≤ 3072) (hS : Sh S) (hc : c < 512) (hI : Inv c I)
    (kk : ∀ S' I' J', Sh S' → Inv (c + 1) I' → Wp RL cL_law 7 (some .boolean) [] (hLw L xs) d rc rs 2133 [(0, .ref (gSB + 300)), (1, .ref 0), (2, .ref 310), (3, .ref 337), (4, .int (Int32.ofNat i))] [] S' I' J' QL) : Wp RL cL_law 7 (some .boolean) [] (hLw L xs) d (rc + 2) (rs + 12) 1390 [(0, .ref (gSB + 300)), (1, .ref 0), (2, .ref 310), (3, .ref 337), (4, .int (Int32.ofNat i))] [] S I J QL := by
  obtain ⟨rv, I1, J1, bb, I2, h1, hE, h2, ht, hv, hI2⟩ := hst c I J S.2.2 (xs (Int32.ofNat i + 1).toNatClampNeg) hc hI hS.2.2
  have hS1 : Sh (oS rv (updR (updR (newS S (6, 0)) S.2.2 0 (some 2)) S.2.2 1 (some 30)) S) := by cases rv <;> first | exact Sh_put2 hS.2.2 (Sh_nw9 hS) | exact hS
  refine wp_aload_n dL_law_1390 rfl rfl ?_
  refine wp_aload_n dL_law_1391 rfl rfl ?_
  refine wp_iload dL_law_1392 rfl ?_
  refine wp_iconst (v := 1) dL_law_1394 (by decide) ?_
  refine wp_iadd dL_law_1395 ?_
  refine wp_sld dL_law_1396 (sx 1 (by decide) hi hL) ?_
  refine wp_aload_n dL_law_1397 rfl rfl ?_
  refine wp_callSW (As := [.ref 0, .int (xs (Int32.ofNat i + 1).toNatClampNeg), .ref 337]) dL_law_1398 lwL_apart mlL_180 smL_apart (ct_L_apart N 17 (Nat.le_refl _) hS rfl h1 hE) rfl rfl (Nat.le_trans (by decide) hd) (Nat.le_of_ble_eq_true rfl) (fun _ _ _ _ h => h.2.2.2) (fun _ => ?_)
  show Wp RL cL_law 7 (some .boolean) [] (hLw L xs) d rc rs 1401 [(0, .ref (gSB + 300)), (1, .ref 0), (2, .ref 310), (3, .ref 337), (4, .int (Int32.ofNat i))] [.int (kL1 rv)] (oS rv (updR (updR (newS S (6, 0)) S.2.2 0 (some 2)) S.2.2 1 (some 30)) S) I1 (jL rv J1) QL
  generalize (oS rv (updR (updR (newS S (6, 0)) S.2.2 0 (some 2)) S.2.2 1 (some 30)) S) = S1 at hS1 ⊢
  refine wp_istore (ls' := [(5, .int (kL1 rv)), (0, .ref (gSB + 300)), (1, .ref 0), (2, .ref 310), (3, .ref 337), (4, .int (Int32.ofNat i))]) dL_law_1401 (Nat.le_of_ble_eq_true rfl) rfl ?_
  refine wp_aload_n dL_law_1403 rfl rfl ?_
  refine wp_aload_n dL_law_1404 rfl rfl ?_
  refine wp_iload dL_law_1405 rfl ?_
  refine wp_iconst (v := 1) dL_law_1407 (by decide) ?_
  refine wp_iadd dL_law_1408 ?_
  refine wp_sld dL_law_1409 (sx 1 (by decide) hi hL) ?_
  refine wp_callVi (ci := 11) (As := [.int (xs (Int32.ofNat i + 1).toNatClampNeg)]) dL_law_1410 lbX11_apart mlL_182 imX11_apart seX11_apart vc11 (ct_X11_apart N 4 (Nat.le_refl _) hS1 h2) rfl rfl (Nat.le_trans (by decide) hd) (sk310 hS1) (sn310 hS1) (Nat.le_of_ble_eq_true rfl) (fun _ => ?_)
  show Wp RL cL_law 7 (some .boolean) [] (hLw L xs) d rc rs 1413 [(5, .int (kL1 rv)), (0, .ref (gSB + 300)), (1, .ref 0), (2, .ref 310), (3, .ref 337), (4, .int (Int32.ofNat i))] [.int bb] S1 I2 (jL rv J1) QL
  refine wp_istore (ls' := [(6, .int bb), (5, .int (kL1 rv)), (0, .ref (gSB + 300)), (1, .ref 0), (2, .ref 310), (3, .ref 337), (4, .int (Int32.ofNat i))]) dL_law_1413 (Nat.le_of_ble_eq_true rfl) rfl ?_
  refine wp_aload_n dL_law_1415 rfl rfl ?_
  refine wp_callVi (ci := 11) (As := []) dL_law_1416 lbX11_thrown mlL_114 imX11_thrown seX11_thrown vc11 (ct_X11_thrown 0 (Nat.le_refl _) hS1 tm_thrown) rfl rfl (Nat.le_trans (by decide) hd) (sk310 hS1) (sn310 hS1) (Nat.le_of_ble_eq_true rfl) (fun _ => ?_)
  refine wp_iload dL_law_1419 rfl ?_
  refine wp_icmp_eq (tgt := 1426) dL_law_1421 (by decide) (fun _ => ?_) (fun hc => absurd ht hc)
  refine wp_iload dL_law_1426 rfl ?_
  refine wp_if_ne (tgt := 1443) dL_law_1428 (by decide) (fun _ => ?_) (fun hc => ?_)
  · refine wp_goto (tgt := 2133) dL_law_1443 (by decide) ?_
    exact wp_pick (ks := [2, 3, 4, 5, 6]) rfl (kk _ _ _ hS1 hI2)
  · have hk0 : kL1 rv = 0 := hc
    obtain ⟨v, rfl⟩ := kl1 hk0
    have hvb := hv v rfl
    refine wp_aload_n dL_law_1431 rfl rfl ?_
    refine wp_iconst (v := 0) dL_law_1432 (by decide) ?_
    refine wp_lald (n := 1) dL_law_1433 (sk337 hS1) (sn337 hS1) (inb_in (by decide)) ?_
    refine wp_iload dL_law_1434 rfl ?_
    refine wp_i2l dL_law_1436 ?_
    refine wp_lcmp dL_law_1437 ?_
    refine wp_if_eq (tgt := 1443) dL_law_1438 (by decide) (fun _ => ?_) (fun hc9 => absurd (lgc (by show (jL (.inl v) J1) 337 0 = bb.toInt64; rw [jL_at, hvb])) hc9)
    refine wp_goto (tgt := 2133) dL_law_1443 (by decide) ?_
    exact wp_pick (ks := [2, 3, 4, 5, 6]) rfl (kk _ _ _ hS1 hI2)
def St_cuts (N : Nat) (Inv : Nat → gI → Prop) : Prop := ∀ (c : Nat) (I : gI) (J : gJ) (a1 a2 : Int32), c < 512 → Inv c I → ∃ (rv : Int32 ⊕ String) (bb : Int32) (I2 : gI), mX10_cuts N a1 a2 I = some rv ∧ (∀ E, rv = .inr E → E = xnN ∨ E = xnA) ∧ mX11_cuts N a1 a2 I = some (bb, I2) ∧ I2 310 0 = kL2 rv ∧ (∀ v, rv = .inl v → v = bb) ∧ Inv (c + 1) I2
set_option maxHeartbeats 4000000 in
set_option maxRecDepth 100000 in
theorem lc_cuts {N L : Nat} {xs : Nat → Int32} {Inv : Nat → gI → Prop} (hst : St_cuts N Inv) (d : Nat) (hd : 40 ≤ d) {rc rs i c : Nat} {S : gS} {I : gI} {J : gJ} (hi : i + 6 ≤ L) (hL : L ≤ 3072) (hS : Sh S) (hc : c < 512) (hI : Inv c I)
    (kk : ∀ S' I' J', Sh S' → Inv (c + 1) I' → Wp RL cL_law 7 (some .boolean) [] (hLw L xs) d rc rs 2133 [(0, .ref (gSB + 300)), (1, .ref 0), (2, .ref 310), (3, .ref 337), (4, .int (Int32.ofNat i))] [] S' I' J' QL) : Wp RL cL_law 7 (some .boolean) [] (hLw L xs) d (rc + 2) (rs + 12) 1446 [(0, .ref (gSB + 300)), (1, .ref 0), (2, .ref 310), (3, .ref 337), (4, .int (Int32.ofNat i))] [] S I J QL := by
  obtain ⟨rv, bb, I2, h1, hE, h2, ht, hv, hI2⟩ := hst c I J (xs (Int32.ofNat i + 1).toNatClampNeg) (xs (Int32.ofNat i + 2).toNatClampNeg) hc hI
  refine wp_aload_n dL_law_1446 rfl rfl ?_
  refine wp_aload_n dL_law_1447 rfl rfl ?_
  refine wp_iload dL_law_1448 rfl ?_
  refine wp_iconst (v := 1) dL_law_1450 (by decide) ?_
  refine wp_iadd dL_law_1451 ?_
  refine wp_sld dL_law_1452 (sx 1 (by decide) hi hL) ?_
  refine wp_aload_n dL_law_1453 rfl rfl ?_
  refine wp_iload dL_law_1454 rfl ?_
  refine wp_iconst (v := 2) dL_law_1456 (by decide) ?_
  refine wp_iadd dL_law_1457 ?_
  refine wp_sld dL_law_1458 (sx 2 (by decide) hi hL) ?_
  refine wp_aload_n dL_law_1459 rfl rfl ?_
  refine wp_callSW (As := [.ref 0, .int (xs (Int32.ofNat i + 1).toNatClampNeg), .int (xs (Int32.ofNat i + 2).toNatClampNeg), .ref 337]) dL_law_1460 lwL_cuts mlL_183 smL_cuts (ct_L_cuts N 11 (Nat.le_refl _) hS h1 hE) rfl rfl (Nat.le_trans (by decide) hd) (Nat.le_of_ble_eq_true rfl) (fun _ _ _ _ h => h.2.2.2) (fun _ => ?_)
  show Wp RL cL_law 7 (some .boolean) [] (hLw L xs) d rc rs 1463 [(0, .ref (gSB + 300)), (1, .ref 0), (2, .ref 310), (3, .ref 337), (4, .int (Int32.ofNat i))] [.int (kL2 rv)] S I (jL rv J) QL
  refine wp_istore (ls' := [(5, .int (kL2 rv)), (0, .ref (gSB + 300)), (1, .ref 0), (2, .ref 310), (3, .ref 337), (4, .int (Int32.ofNat i))]) dL_law_1463 (Nat.le_of_ble_eq_true rfl) rfl ?_
  refine wp_aload_n dL_law_1465 rfl rfl ?_
  refine wp_aload_n dL_law_1466 rfl rfl ?_
  refine wp_iload dL_law_1467 rfl ?_
  refine wp_iconst (v := 1) dL_law_1469 (by decide) ?_
  refine wp_iadd dL_law_1470 ?_
  refine wp_sld dL_law_1471 (sx 1 (by decide) hi hL) ?_
  refine wp_aload_n dL_law_1472 rfl rfl ?_
  refine wp_iload dL_law_1473 rfl ?_
  refine wp_iconst (v := 2) dL_law_1475 (by decide) ?_
  refine wp_iadd dL_law_1476 ?_
  refine wp_sld dL_law_1477 (sx 2 (by decide) hi hL) ?_
  refine wp_callVi (ci := 11) (As := [.int (xs (Int32.ofNat i + 1).toNatClampNeg), .int (xs (Int32.ofNat i + 2).toNatClampNeg)]) dL_law_1478 lbX11_cuts mlL_185 imX11_cuts seX11_cuts vc11 (ct_X11_cuts N 2 (Nat.le_refl _) hS h2) rfl rfl (Nat.le_trans (by decide) hd) (sk310 hS) (sn310 hS) (Nat.le_of_ble_eq_true rfl) (fun _ => ?_)
  show Wp RL cL_law 7 (some .boolean) [] (hLw L xs) d rc rs 1481 [(5, .int (kL2 rv)), (0, .ref (gSB + 300)), (1, .ref 0), (2, .ref 310), (3, .ref 337), (4, .int (Int32.ofNat i))] [.int bb] S I2 (jL rv J) QL
  refine wp_istore (ls' := [(6, .int bb), (5, .int (kL2 rv)), (0, .ref (gSB + 300)), (1, .ref 0), (2, .ref 310), (3, .ref 337), (4, .int (Int32.ofNat i))]) dL_law_1481 (Nat.le_of_ble_eq_true rfl) rfl ?_
  refine wp_aload_n dL_law_1483 rfl rfl ?_
  refine wp_callVi (ci := 11) (As := []) dL_law_1484 lbX11_thrown mlL_114 imX11_thrown seX11_thrown vc11 (ct_X11_thrown 0 (Nat.le_refl _) hS tm_thrown) rfl rfl (Nat.le_trans (by decide) hd) (sk310 hS) (sn310 hS) (Nat.le_of_ble_eq_true rfl) (fun _ => ?_)
  refine wp_iload dL_law_1487 rfl ?_
  refine wp_icmp_eq (tgt := 1494) dL_law_1489 (by decide) (fun _ => ?_) (fun hc => absurd ht hc)
  refine wp_iload dL_law_1494 rfl ?_
  refine wp_if_ne (tgt := 1511) dL_law_1496 (by decide) (fun _ => ?_) (fun hc => ?_)
  · refine wp_goto (tgt := 2133) dL_law_1511 (by decide) ?_
    exact wp_pick (ks := [2, 3, 4, 5, 6]) rfl (kk _ _ _ hS hI2)
  · have hk0 : kL2 rv = 0 := hc
    obtain ⟨v, rfl⟩ := kl2 hk0
    have hvb := hv v rfl
    refine wp_aload_n dL_law_1499 rfl rfl ?_
    refine wp_iconst (v := 0) dL_law_1500 (by decide) ?_
    refine wp_lald (n := 1) dL_law_1501 (sk337 hS) (sn337 hS) (inb_in (by decide)) ?_
    refine wp_iload dL_law_1502 rfl ?_
    refine wp_i2l dL_law_1504 ?_
    refine wp_lcmp dL_law_1505 ?_
    refine wp_if_eq (tgt := 1511) dL_law_1506 (by decide) (fun _ => ?_) (fun hc9 => absurd (lgc (by show (jL (.inl v) J) 337 0 = bb.toInt64; rw [jL_at, hvb])) hc9)
    refine wp_goto (tgt := 2133) dL_law_1511 (by decide) ?_
    exact wp_pick (ks := [2, 3, 4, 5, 6]) rfl (kk _ _ _ hS hI2)
def St_flow (N : Nat) (Inv : Nat → gI → Prop) : Prop := ∀ (c : Nat) (I : gI) (J : gJ) (a1 a2 a3 : Int32), c < 512 → Inv c I → ∃ (rv : Int32 ⊕ String) (I1 : gI) (bb : Int32) (I2 : gI), mX10_flow N a1 a2 a3 I = some (rv, I1) ∧ (∀ E, rv = .inr E → E = xnN ∨ E = xnA) ∧ mX11_flow N a1 a2 a3 I1 = some (bb, I2) ∧ I2 310 0 = kL2 rv ∧ (∀ v, rv = .inl v → v = bb) ∧ Inv (c + 1) I2
set_option maxHeartbeats 4000000 in
set_option maxRecDepth 100000 in
theorem lc_flow {N L : Nat} {xs : Nat → Int32} {Inv : Nat → gI → Prop} (hst : St_flow N Inv) (d : Nat) (hd : 40 ≤ d) {rc rs i c : Nat} {S : gS} {I : gI} {J : gJ} (hi : i + 6 ≤ L) (hL : L ≤ 3072) (hS : Sh S) (hc : c < 512) (hI : Inv c I)
    (kk : ∀ S' I' J', Sh S' → Inv (c + 1) I' → Wp RL cL_law 7 (some .boolean) [] (hLw L xs) d rc rs 2133 [(0, .ref (gSB + 300)), (1, .ref 0), (2, .ref 310), (3, .ref 337), (4, .int (Int32.ofNat i))] [] S' I' J' QL) : Wp RL cL_law 7 (some .boolean) [] (hLw L xs) d (rc + 3) (rs + 18) 1514 [(0, .ref (gSB + 300)), (1, .ref 0), (2, .ref 310), (3, .ref 337), (4, .int (Int32.ofNat i))] [] S I J QL := by
  obtain ⟨rv, I1, bb, I2, h1, hE, h2, ht, hv, hI2⟩ := hst c I J (xs (Int32.ofNat i + 1).toNatClampNeg) (xs (Int32.ofNat i + 2).toNatClampNeg) (xs (Int32.ofNat i + 3).toNatClampNeg) hc hI
  refine wp_aload_n dL_law_1514 rfl rfl ?_
  refine wp_aload_n dL_law_1515 rfl rfl ?_
  refine wp_iload dL_law_1516 rfl ?_
  refine wp_iconst (v := 1) dL_law_1518 (by decide) ?_
  refine wp_iadd dL_law_1519 ?_
  refine wp_sld dL_law_1520 (sx 1 (by decide) hi hL) ?_
  refine wp_aload_n dL_law_1521 rfl rfl ?_
  refine wp_iload dL_law_1522 rfl ?_
  refine wp_iconst (v := 2) dL_law_1524 (by decide) ?_
  refine wp_iadd dL_law_1525 ?_
  refine wp_sld dL_law_1526 (sx 2 (by decide) hi hL) ?_
  refine wp_aload_n dL_law_1527 rfl rfl ?_
  refine wp_iload dL_law_1528 rfl ?_
  refine wp_iconst (v := 3) dL_law_1530 (by decide) ?_
  refine wp_iadd dL_law_1531 ?_
  refine wp_sld dL_law_1532 (sx 3 (by decide) hi hL) ?_
  refine wp_aload_n dL_law_1533 rfl rfl ?_
  refine wp_callSW (As := [.ref 0, .int (xs (Int32.ofNat i + 1).toNatClampNeg), .int (xs (Int32.ofNat i + 2).toNatClampNeg), .int (xs (Int32.ofNat i + 3).toNatClampNeg), .ref 337]) dL_law_1534 lwL_flow mlL_186 smL_flow (ct_L_flow N 11 (Nat.le_refl _) hS h1 hE) rfl rfl (Nat.le_trans (by decide) hd) (Nat.le_of_ble_eq_true rfl) (fun _ _ _ _ h => h.2.2.2) (fun _ => ?_)
  show Wp RL cL_law 7 (some .boolean) [] (hLw L xs) d rc rs 1537 [(0, .ref (gSB + 300)), (1, .ref 0), (2, .ref 310), (3, .ref 337), (4, .int (Int32.ofNat i))] [.int (kL2 rv)] S I1 (jL rv J) QL
  refine wp_istore (ls' := [(5, .int (kL2 rv)), (0, .ref (gSB + 300)), (1, .ref 0), (2, .ref 310), (3, .ref 337), (4, .int (Int32.ofNat i))]) dL_law_1537 (Nat.le_of_ble_eq_true rfl) rfl ?_
  refine wp_aload_n dL_law_1539 rfl rfl ?_
  refine wp_aload_n dL_law_1540 rfl rfl ?_
  refine wp_iload dL_law_1541 rfl ?_
  refine wp_iconst (v := 1) dL_law_1543 (by decide) ?_
  refine wp_iadd dL_law_1544 ?_
  refine wp_sld dL_law_1545 (sx 1 (by decide) hi hL) ?_
  refine wp_aload_n dL_law_1546 rfl rfl ?_
  refine wp_iload dL_law_1547 rfl ?_
  refine wp_iconst (v := 2) dL_law_1549 (by decide) ?_
  refine wp_iadd dL_law_1550 ?_
  refine wp_sld dL_law_1551 (sx 2 (by decide) hi hL) ?_
  refine wp_aload_n dL_law_1552 rfl rfl ?_
  refine wp_iload dL_law_1553 rfl ?_
  refine wp_iconst (v := 3) dL_law_1555 (by decide) ?_
  refine wp_iadd dL_law_1556 ?_
  refine wp_sld dL_law_1557 (sx 3 (by decide) hi hL) ?_
  refine wp_callVi (ci := 11) (As := [.int (xs (Int32.ofNat i + 1).toNatClampNeg), .int (xs (Int32.ofNat i + 2).toNatClampNeg), .int (xs (Int32.ofNat i + 3).toNatClampNeg)]) dL_law_1558 lbX11_flow mlL_188 imX11_flow seX11_flow vc11 (ct_X11_flow N 2 (Nat.le_refl _) hS h2) rfl rfl (Nat.le_trans (by decide) hd) (sk310 hS) (sn310 hS) (Nat.le_of_ble_eq_true rfl) (fun _ => ?_)
  show Wp RL cL_law 7 (some .boolean) [] (hLw L xs) d rc rs 1561 [(5, .int (kL2 rv)), (0, .ref (gSB + 300)), (1, .ref 0), (2, .ref 310), (3, .ref 337), (4, .int (Int32.ofNat i))] [.int bb] S I2 (jL rv J) QL
  refine wp_istore (ls' := [(6, .int bb), (5, .int (kL2 rv)), (0, .ref (gSB + 300)), (1, .ref 0), (2, .ref 310), (3, .ref 337), (4, .int (Int32.ofNat i))]) dL_law_1561 (Nat.le_of_ble_eq_true rfl) rfl ?_
  refine wp_aload_n dL_law_1563 rfl rfl ?_
  refine wp_callVi (ci := 11) (As := []) dL_law_1564 lbX11_thrown mlL_114 imX11_thrown seX11_thrown vc11 (ct_X11_thrown 0 (Nat.le_refl _) hS tm_thrown) rfl rfl (Nat.le_trans (by decide) hd) (sk310 hS) (sn310 hS) (Nat.le_of_ble_eq_true rfl) (fun _ => ?_)
  refine wp_iload dL_law_1567 rfl ?_
  refine wp_icmp_eq (tgt := 1574) dL_law_1569 (by decide) (fun _ => ?_) (fun hc => absurd ht hc)
  refine wp_iload dL_law_1574 rfl ?_
  refine wp_if_ne (tgt := 1591) dL_law_1576 (by decide) (fun _ => ?_) (fun hc => ?_)
  · refine wp_goto (tgt := 2133) dL_law_1591 (by decide) ?_
    exact wp_pick (ks := [2, 3, 4, 5, 6]) rfl (kk _ _ _ hS hI2)
  · have hk0 : kL2 rv = 0 := hc
    obtain ⟨v, rfl⟩ := kl2 hk0
    have hvb := hv v rfl
    refine wp_aload_n dL_law_1579 rfl rfl ?_
    refine wp_iconst (v := 0) dL_law_1580 (by decide) ?_
    refine wp_lald (n := 1) dL_law_1581 (sk337 hS) (sn337 hS) (inb_in (by decide)) ?_
    refine wp_iload dL_law_1582 rfl ?_
    refine wp_i2l dL_law_1584 ?_
    refine wp_lcmp dL_law_1585 ?_
    refine wp_if_eq (tgt := 1591) dL_law_1586 (by decide) (fun _ => ?_) (fun hc9 => absurd (lgc (by show (jL (.inl v) J) 337 0 = bb.toInt64; rw [jL_at, hvb])) hc9)
    refine wp_goto (tgt := 2133) dL_law_1591 (by decide) ?_
    exact wp_pick (ks := [2, 3, 4, 5, 6]) rfl (kk _ _ _ hS hI2)
def St_distance (N : Nat) (Inv : Nat → gI → Prop) : Prop := ∀ (c : Nat) (I : gI) (J : gJ) (a1 a2 : Int32), c < 512 → Inv c I → ∃ (rv : Int32 ⊕ String) (I1 : gI) (bb : Int32) (I2 : gI), mX10_distance N a1 a2 I = some (rv, I1) ∧ (∀ E, rv = .inr E → E = xnN) ∧ mX11_distance N a1 a2 I1 = some (bb, I2) ∧ I2 310 0 = kL1 rv ∧ (∀ v, rv = .inl v → v = bb) ∧ Inv (c + 1) I2
set_option maxHeartbeats 4000000 in
set_option maxRecDepth 100000 in
theorem lc_distance {N L : Nat} {xs : Nat → Int32} {Inv : Nat → gI → Prop} (hst : St_distance N Inv) (d : Nat) (hd : 40 ≤ d) {rc rs i c : Nat} {S : gS} {I : gI} {J : gJ} (hi : i + 6 ≤ L) (hL : L ≤ 3072) (hS : Sh S) (hc : c < 512) (hI : Inv c I)
    (kk : ∀ S' I' J', Sh S' → Inv (c + 1) I' → Wp RL cL_law 7 (some .boolean) [] (hLw L xs) d rc rs 2133 [(0, .ref (gSB + 300)), (1, .ref 0), (2, .ref 310), (3, .ref 337), (4, .int (Int32.ofNat i))] [] S' I' J' QL) : Wp RL cL_law 7 (some .boolean) [] (hLw L xs) d (rc + 1) (rs + 6) 1594 [(0, .ref (gSB + 300)), (1, .ref 0), (2, .ref 310), (3, .ref 337), (4, .int (Int32.ofNat i))] [] S I J QL := by
  obtain ⟨rv, I1, bb, I2, h1, hE, h2, ht, hv, hI2⟩ := hst c I J (xs (Int32.ofNat i + 1).toNatClampNeg) (xs (Int32.ofNat i + 2).toNatClampNeg) hc hI
  refine wp_aload_n dL_law_1594 rfl rfl ?_
  refine wp_aload_n dL_law_1595 rfl rfl ?_
  refine wp_iload dL_law_1596 rfl ?_
  refine wp_iconst (v := 1) dL_law_1598 (by decide) ?_
  refine wp_iadd dL_law_1599 ?_
  refine wp_sld dL_law_1600 (sx 1 (by decide) hi hL) ?_
  refine wp_aload_n dL_law_1601 rfl rfl ?_
  refine wp_iload dL_law_1602 rfl ?_
  refine wp_iconst (v := 2) dL_law_1604 (by decide) ?_
  refine wp_iadd dL_law_1605 ?_
  refine wp_sld dL_law_1606 (sx 2 (by decide) hi hL) ?_
  refine wp_aload_n dL_law_1607 rfl rfl ?_
  refine wp_callSW (As := [.ref 0, .int (xs (Int32.ofNat i + 1).toNatClampNeg), .int (xs (Int32.ofNat i + 2).toNatClampNeg), .ref 337]) dL_law_1608 lwL_distance mlL_189 smL_distance (ct_L_distance N 11 (Nat.le_refl _) hS h1 hE) rfl rfl (Nat.le_trans (by decide) hd) (Nat.le_of_ble_eq_true rfl) (fun _ _ _ _ h => h.2.2.2) (fun _ => ?_)
  show Wp RL cL_law 7 (some .boolean) [] (hLw L xs) d rc rs 1611 [(0, .ref (gSB + 300)), (1, .ref 0), (2, .ref 310), (3, .ref 337), (4, .int (Int32.ofNat i))] [.int (kL1 rv)] S I1 (jL rv J) QL
  refine wp_istore (ls' := [(5, .int (kL1 rv)), (0, .ref (gSB + 300)), (1, .ref 0), (2, .ref 310), (3, .ref 337), (4, .int (Int32.ofNat i))]) dL_law_1611 (Nat.le_of_ble_eq_true rfl) rfl ?_
  refine wp_aload_n dL_law_1613 rfl rfl ?_
  refine wp_aload_n dL_law_1614 rfl rfl ?_
  refine wp_iload dL_law_1615 rfl ?_
  refine wp_iconst (v := 1) dL_law_1617 (by decide) ?_
  refine wp_iadd dL_law_1618 ?_
  refine wp_sld dL_law_1619 (sx 1 (by decide) hi hL) ?_
  refine wp_aload_n dL_law_1620 rfl rfl ?_
  refine wp_iload dL_law_1621 rfl ?_
  refine wp_iconst (v := 2) dL_law_1623 (by decide) ?_
  refine wp_iadd dL_law_1624 ?_
  refine wp_sld dL_law_1625 (sx 2 (by decide) hi hL) ?_
  refine wp_callVi (ci := 11) (As := [.int (xs (Int32.ofNat i + 1).toNatClampNeg), .int (xs (Int32.ofNat i + 2).toNatClampNeg)]) dL_law_1626 lbX11_distance mlL_191 imX11_distance seX11_distance vc11 (ct_X11_distance N 2 (Nat.le_refl _) hS h2) rfl rfl (Nat.le_trans (by decide) hd) (sk310 hS) (sn310 hS) (Nat.le_of_ble_eq_true rfl) (fun _ => ?_)
  show Wp RL cL_law 7 (some .boolean) [] (hLw L xs) d rc rs 1629 [(5, .int (kL1 rv)), (0, .ref (gSB + 300)), (1, .ref 0), (2, .ref 310), (3, .ref 337), (4, .int (Int32.ofNat i))] [.int bb] S I2 (jL rv J) QL
  refine wp_istore (ls' := [(6, .int bb), (5, .int (kL1 rv)), (0, .ref (gSB + 300)), (1, .ref 0), (2, .ref 310), (3, .ref 337), (4, .int (Int32.ofNat i))]) dL_law_1629 (Nat.le_of_ble_eq_true rfl) rfl ?_
  refine wp_aload_n dL_law_1631 rfl rfl ?_
  refine wp_callVi (ci := 11) (As := []) dL_law_1632 lbX11_thrown mlL_114 imX11_thrown seX11_thrown vc11 (ct_X11_thrown 0 (Nat.le_refl _) hS tm_thrown) rfl rfl (Nat.le_trans (by decide) hd) (sk310 hS) (sn310 hS) (Nat.le_of_ble_eq_true rfl) (fun _ => ?_)
  refine wp_iload dL_law_1635 rfl ?_
  refine wp_icmp_eq (tgt := 1642) dL_law_1637 (by decide) (fun _ => ?_) (fun hc => absurd ht hc)
  refine wp_iload dL_law_1642 rfl ?_
  refine wp_if_ne (tgt := 1659) dL_law_1644 (by decide) (fun _ => ?_) (fun hc => ?_)
  · refine wp_goto (tgt := 2133) dL_law_1659 (by decide) ?_
    exact wp_pick (ks := [2, 3, 4, 5, 6]) rfl (kk _ _ _ hS hI2)
  · have hk0 : kL1 rv = 0 := hc
    obtain ⟨v, rfl⟩ := kl1 hk0
    have hvb := hv v rfl
    refine wp_aload_n dL_law_1647 rfl rfl ?_
    refine wp_iconst (v := 0) dL_law_1648 (by decide) ?_
    refine wp_lald (n := 1) dL_law_1649 (sk337 hS) (sn337 hS) (inb_in (by decide)) ?_
    refine wp_iload dL_law_1650 rfl ?_
    refine wp_i2l dL_law_1652 ?_
    refine wp_lcmp dL_law_1653 ?_
    refine wp_if_eq (tgt := 1659) dL_law_1654 (by decide) (fun _ => ?_) (fun hc9 => absurd (lgc (by show (jL (.inl v) J) 337 0 = bb.toInt64; rw [jL_at, hvb])) hc9)
    refine wp_goto (tgt := 2133) dL_law_1659 (by decide) ?_
    exact wp_pick (ks := [2, 3, 4, 5, 6]) rfl (kk _ _ _ hS hI2)
def St_room (N : Nat) (Inv : Nat → gI → Prop) : Prop := ∀ (c : Nat) (I : gI) (J : gJ) (a1 : Int32), c < 512 → Inv c I → ∃ (rv : Int32 ⊕ String) (I1 : gI) (bb : Int32) (I2 : gI), mX10_room N a1 I = some (rv, I1) ∧ (∀ E, rv = .inr E → E = xnN) ∧ mX11_room N a1 I1 = some (bb, I2) ∧ I2 310 0 = kL1 rv ∧ (∀ v, rv = .inl v → v = bb) ∧ Inv (c + 1) I2
set_option maxHeartbeats 4000000 in
set_option maxRecDepth 100000 in
theorem lc_room {N L : Nat} {xs : Nat → Int32} {Inv : Nat → gI → Prop} (hst : St_room N Inv) (d : Nat) (hd : 40 ≤ d) {rc rs i c : Nat} {S : gS} {I : gI} {J : gJ} (hi : i + 6 ≤ L) (hL : L ≤ 3072) (hS : Sh S) (hc : c < 512) (hI : Inv c I)
    (kk : ∀ S' I' J', Sh S' → Inv (c + 1) I' → Wp RL cL_law 7 (some .boolean) [] (hLw L xs) d rc rs 2133 [(0, .ref (gSB + 300)), (1, .ref 0), (2, .ref 310), (3, .ref 337), (4, .int (Int32.ofNat i))] [] S' I' J' QL) : Wp RL cL_law 7 (some .boolean) [] (hLw L xs) d (rc + 1) (rs + 6) 1662 [(0, .ref (gSB + 300)), (1, .ref 0), (2, .ref 310), (3, .ref 337), (4, .int (Int32.ofNat i))] [] S I J QL := by
  obtain ⟨rv, I1, bb, I2, h1, hE, h2, ht, hv, hI2⟩ := hst c I J (xs (Int32.ofNat i + 1).toNatClampNeg) hc hI
  refine wp_aload_n dL_law_1662 rfl rfl ?_
  refine wp_aload_n dL_law_1663 rfl rfl ?_
  refine wp_iload dL_law_1664 rfl ?_
  refine wp_iconst (v := 1) dL_law_1666 (by decide) ?_
  refine wp_iadd dL_law_1667 ?_
  refine wp_sld dL_law_1668 (sx 1 (by decide) hi hL) ?_
  refine wp_aload_n dL_law_1669 rfl rfl ?_
  refine wp_callSW (As := [.ref 0, .int (xs (Int32.ofNat i + 1).toNatClampNeg), .ref 337]) dL_law_1670 lwL_room mlL_192 smL_room (ct_L_room N 11 (Nat.le_refl _) hS h1 hE) rfl rfl (Nat.le_trans (by decide) hd) (Nat.le_of_ble_eq_true rfl) (fun _ _ _ _ h => h.2.2.2) (fun _ => ?_)
  show Wp RL cL_law 7 (some .boolean) [] (hLw L xs) d rc rs 1673 [(0, .ref (gSB + 300)), (1, .ref 0), (2, .ref 310), (3, .ref 337), (4, .int (Int32.ofNat i))] [.int (kL1 rv)] S I1 (jL rv J) QL
  refine wp_istore (ls' := [(5, .int (kL1 rv)), (0, .ref (gSB + 300)), (1, .ref 0), (2, .ref 310), (3, .ref 337), (4, .int (Int32.ofNat i))]) dL_law_1673 (Nat.le_of_ble_eq_true rfl) rfl ?_
  refine wp_aload_n dL_law_1675 rfl rfl ?_
  refine wp_aload_n dL_law_1676 rfl rfl ?_
  refine wp_iload dL_law_1677 rfl ?_
  refine wp_iconst (v := 1) dL_law_1679 (by decide) ?_
  refine wp_iadd dL_law_1680 ?_
  refine wp_sld dL_law_1681 (sx 1 (by decide) hi hL) ?_
  refine wp_callVi (ci := 11) (As := [.int (xs (Int32.ofNat i + 1).toNatClampNeg)]) dL_law_1682 lbX11_room mlL_194 imX11_room seX11_room vc11 (ct_X11_room N 4 (Nat.le_refl _) hS h2) rfl rfl (Nat.le_trans (by decide) hd) (sk310 hS) (sn310 hS) (Nat.le_of_ble_eq_true rfl) (fun _ => ?_)
  show Wp RL cL_law 7 (some .boolean) [] (hLw L xs) d rc rs 1685 [(5, .int (kL1 rv)), (0, .ref (gSB + 300)), (1, .ref 0), (2, .ref 310), (3, .ref 337), (4, .int (Int32.ofNat i))] [.int bb] S I2 (jL rv J) QL
  refine wp_istore (ls' := [(6, .int bb), (5, .int (kL1 rv)), (0, .ref (gSB + 300)), (1, .ref 0), (2, .ref 310), (3, .ref 337), (4, .int (Int32.ofNat i))]) dL_law_1685 (Nat.le_of_ble_eq_true rfl) rfl ?_
  refine wp_aload_n dL_law_1687 rfl rfl ?_
  refine wp_callVi (ci := 11) (As := []) dL_law_1688 lbX11_thrown mlL_114 imX11_thrown seX11_thrown vc11 (ct_X11_thrown 0 (Nat.le_refl _) hS tm_thrown) rfl rfl (Nat.le_trans (by decide) hd) (sk310 hS) (sn310 hS) (Nat.le_of_ble_eq_true rfl) (fun _ => ?_)
  refine wp_iload dL_law_1691 rfl ?_
  refine wp_icmp_eq (tgt := 1698) dL_law_1693 (by decide) (fun _ => ?_) (fun hc => absurd ht hc)
  refine wp_iload dL_law_1698 rfl ?_
  refine wp_if_ne (tgt := 1715) dL_law_1700 (by decide) (fun _ => ?_) (fun hc => ?_)
  · refine wp_goto (tgt := 2133) dL_law_1715 (by decide) ?_
    exact wp_pick (ks := [2, 3, 4, 5, 6]) rfl (kk _ _ _ hS hI2)
  · have hk0 : kL1 rv = 0 := hc
    obtain ⟨v, rfl⟩ := kl1 hk0
    have hvb := hv v rfl
    refine wp_aload_n dL_law_1703 rfl rfl ?_
    refine wp_iconst (v := 0) dL_law_1704 (by decide) ?_
    refine wp_lald (n := 1) dL_law_1705 (sk337 hS) (sn337 hS) (inb_in (by decide)) ?_
    refine wp_iload dL_law_1706 rfl ?_
    refine wp_i2l dL_law_1708 ?_
    refine wp_lcmp dL_law_1709 ?_
    refine wp_if_eq (tgt := 1715) dL_law_1710 (by decide) (fun _ => ?_) (fun hc9 => absurd (lgc (by show (jL (.inl v) J) 337 0 = bb.toInt64; rw [jL_at, hvb])) hc9)
    refine wp_goto (tgt := 2133) dL_law_1715 (by decide) ?_
    exact wp_pick (ks := [2, 3, 4, 5, 6]) rfl (kk _ _ _ hS hI2)
def St_saved (N : Nat) (Inv : Nat → gI → Prop) : Prop := ∀ (c : Nat) (I : gI) (J : gJ) (a1 : Int32), c < 512 → Inv c I → ∃ (rv : Int32 ⊕ String) (bb : Int32) (I2 : gI), mX10_saved N a1 I = some rv ∧ (∀ E, rv = .inr E → E = xnN) ∧ mX11_saved N a1 I = some (bb, I2) ∧ I2 310 0 = kL1 rv ∧ (∀ v, rv = .inl v → v = bb) ∧ Inv (c + 1) I2
set_option maxHeartbeats 4000000 in
set_option maxRecDepth 100000 in
theorem lc_saved {N L : Nat} {xs : Nat → Int32} {Inv : Nat → gI → Prop} (hst : St_saved N Inv) (d : Nat) (hd : 40 ≤ d) {rc rs i c : Nat} {S : gS} {I : gI} {J : gJ} (hi : i + 6 ≤ L) (hL : L ≤ 3072) (hS : Sh S) (hc : c < 512) (hI : Inv c I)
    (kk : ∀ S' I' J', Sh S' → Inv (c + 1) I' → Wp RL cL_law 7 (some .boolean) [] (hLw L xs) d rc rs 2133 [(0, .ref (gSB + 300)), (1, .ref 0), (2, .ref 310), (3, .ref 337), (4, .int (Int32.ofNat i))] [] S' I' J' QL) : Wp RL cL_law 7 (some .boolean) [] (hLw L xs) d (rc + 1) (rs + 6) 1718 [(0, .ref (gSB + 300)), (1, .ref 0), (2, .ref 310), (3, .ref 337), (4, .int (Int32.ofNat i))] [] S I J QL := by
  obtain ⟨rv, bb, I2, h1, hE, h2, ht, hv, hI2⟩ := hst c I J (xs (Int32.ofNat i + 1).toNatClampNeg) hc hI
  refine wp_aload_n dL_law_1718 rfl rfl ?_
  refine wp_aload_n dL_law_1719 rfl rfl ?_
  refine wp_iload dL_law_1720 rfl ?_
  refine wp_iconst (v := 1) dL_law_1722 (by decide) ?_
  refine wp_iadd dL_law_1723 ?_
  refine wp_sld dL_law_1724 (sx 1 (by decide) hi hL) ?_
  refine wp_aload_n dL_law_1725 rfl rfl ?_
  refine wp_callSW (As := [.ref 0, .int (xs (Int32.ofNat i + 1).toNatClampNeg), .ref 337]) dL_law_1726 lwL_saved mlL_195 smL_saved (ct_L_saved N 11 (Nat.le_refl _) hS h1 hE) rfl rfl (Nat.le_trans (by decide) hd) (Nat.le_of_ble_eq_true rfl) (fun _ _ _ _ h => h.2.2.2) (fun _ => ?_)
  show Wp RL cL_law 7 (some .boolean) [] (hLw L xs) d rc rs 1729 [(0, .ref (gSB + 300)), (1, .ref 0), (2, .ref 310), (3, .ref 337), (4, .int (Int32.ofNat i))] [.int (kL1 rv)] S I (jL rv J) QL
  refine wp_istore (ls' := [(5, .int (kL1 rv)), (0, .ref (gSB + 300)), (1, .ref 0), (2, .ref 310), (3, .ref 337), (4, .int (Int32.ofNat i))]) dL_law_1729 (Nat.le_of_ble_eq_true rfl) rfl ?_
  refine wp_aload_n dL_law_1731 rfl rfl ?_
  refine wp_aload_n dL_law_1732 rfl rfl ?_
  refine wp_iload dL_law_1733 rfl ?_
  refine wp_iconst (v := 1) dL_law_1735 (by decide) ?_
  refine wp_iadd dL_law_1736 ?_
  refine wp_sld dL_law_1737 (sx 1 (by decide) hi hL) ?_
  refine wp_callVi (ci := 11) (As := [.int (xs (Int32.ofNat i + 1).toNatClampNeg)]) dL_law_1738 lbX11_saved mlL_197 imX11_saved seX11_saved vc11 (ct_X11_saved N 4 (Nat.le_refl _) hS h2) rfl rfl (Nat.le_trans (by decide) hd) (sk310 hS) (sn310 hS) (Nat.le_of_ble_eq_true rfl) (fun _ => ?_)
  show Wp RL cL_law 7 (some .boolean) [] (hLw L xs) d rc rs 1741 [(5, .int (kL1 rv)), (0, .ref (gSB + 300)), (1, .ref 0), (2, .ref 310), (3, .ref 337), (4, .int (Int32.ofNat i))] [.int bb] S I2 (jL rv J) QL
  refine wp_istore (ls' := [(6, .int bb), (5, .int (kL1 rv)), (0, .ref (gSB + 300)), (1, .ref 0), (2, .ref 310), (3, .ref 337), (4, .int (Int32.ofNat i))]) dL_law_1741 (Nat.le_of_ble_eq_true rfl) rfl ?_
  refine wp_aload_n dL_law_1743 rfl rfl ?_
  refine wp_callVi (ci := 11) (As := []) dL_law_1744 lbX11_thrown mlL_114 imX11_thrown seX11_thrown vc11 (ct_X11_thrown 0 (Nat.le_refl _) hS tm_thrown) rfl rfl (Nat.le_trans (by decide) hd) (sk310 hS) (sn310 hS) (Nat.le_of_ble_eq_true rfl) (fun _ => ?_)
  refine wp_iload dL_law_1747 rfl ?_
  refine wp_icmp_eq (tgt := 1754) dL_law_1749 (by decide) (fun _ => ?_) (fun hc => absurd ht hc)
  refine wp_iload dL_law_1754 rfl ?_
  refine wp_if_ne (tgt := 1771) dL_law_1756 (by decide) (fun _ => ?_) (fun hc => ?_)
  · refine wp_goto (tgt := 2133) dL_law_1771 (by decide) ?_
    exact wp_pick (ks := [2, 3, 4, 5, 6]) rfl (kk _ _ _ hS hI2)
  · have hk0 : kL1 rv = 0 := hc
    obtain ⟨v, rfl⟩ := kl1 hk0
    have hvb := hv v rfl
    refine wp_aload_n dL_law_1759 rfl rfl ?_
    refine wp_iconst (v := 0) dL_law_1760 (by decide) ?_
    refine wp_lald (n := 1) dL_law_1761 (sk337 hS) (sn337 hS) (inb_in (by decide)) ?_
    refine wp_iload dL_law_1762 rfl ?_
    refine wp_i2l dL_law_1764 ?_
    refine wp_lcmp dL_law_1765 ?_
    refine wp_if_eq (tgt := 1771) dL_law_1766 (by decide) (fun _ => ?_) (fun hc9 => absurd (lgc (by show (jL (.inl v) J) 337 0 = bb.toInt64; rw [jL_at, hvb])) hc9)
    refine wp_goto (tgt := 2133) dL_law_1771 (by decide) ?_
    exact wp_pick (ks := [2, 3, 4, 5, 6]) rfl (kk _ _ _ hS hI2)
def St_see (N : Nat) (Inv : Nat → gI → Prop) : Prop := ∀ (c : Nat) (I : gI) (J : gJ) (a1 a2 a3 a4 a5 : Int32), c < 512 → Inv c I → (a5 = 0 ∨ a5 = 1) → ∃ (rv : Int32 ⊕ String) (I1 : gI) (bb : Int32) (I2 : gI), mX10_see a1 a2 a3 a4 a5 I = some (rv, I1) ∧ (∀ E, rv = .inr E → E = xnN) ∧ mX11_see a1 a2 a3 a4 a5 I1 = some (bb, I2) ∧ I2 310 0 = kL1 rv ∧ (∀ v, rv = .inl v → v = bb) ∧ Inv (c + 1) I2
set_option maxHeartbeats 4000000 in
set_option maxRecDepth 100000 in
theorem lc_see {N L : Nat} {xs : Nat → Int32} {Inv : Nat → gI → Prop} (hst : St_see N Inv) (d : Nat) (hd : 40 ≤ d) {rc rs i c : Nat} {S : gS} {I : gI} {J : gJ} (hi : i + 6 ≤ L) (hL : L ≤ 3072) (hS : Sh S) (hc : c < 512) (hI : Inv c I)
    (kk : ∀ S' I' J', Sh S' → Inv (c + 1) I' → Wp RL cL_law 7 (some .boolean) [] (hLw L xs) d rc rs 2133 [(0, .ref (gSB + 300)), (1, .ref 0), (2, .ref 310), (3, .ref 337), (4, .int (Int32.ofNat i))] [] S' I' J' QL) : Wp RL cL_law 7 (some .boolean) [] (hLw L xs) d (rc + 1) (rs + 6) 1774 [(0, .ref (gSB + 300)), (1, .ref 0), (2, .ref 310), (3, .ref 337), (4, .int (Int32.ofNat i))] [] S I J QL := by
  obtain ⟨b5, hb5⟩ : ∃ b5 : Int32, b5 = if (xs (Int32.ofNat i + 5).toNatClampNeg) = 0 then 0 else 1 := ⟨_, rfl⟩
  obtain ⟨rv, I1, bb, I2, h1, hE, h2, ht, hv, hI2⟩ := hst c I J (xs (Int32.ofNat i + 1).toNatClampNeg) (xs (Int32.ofNat i + 2).toNatClampNeg) (xs (Int32.ofNat i + 3).toNatClampNeg) (xs (Int32.ofNat i + 4).toNatClampNeg) b5 hc hI (by rw [hb5]; split; exact Or.inl rfl; exact Or.inr rfl)
  refine wp_aload_n dL_law_1774 rfl rfl ?_
  refine wp_aload_n dL_law_1775 rfl rfl ?_
  refine wp_iload dL_law_1776 rfl ?_
  refine wp_iconst (v := 1) dL_law_1778 (by decide) ?_
  refine wp_iadd dL_law_1779 ?_
  refine wp_sld dL_law_1780 (sx 1 (by decide) hi hL) ?_
  refine wp_aload_n dL_law_1781 rfl rfl ?_
  refine wp_iload dL_law_1782 rfl ?_
  refine wp_iconst (v := 2) dL_law_1784 (by decide) ?_
  refine wp_iadd dL_law_1785 ?_
  refine wp_sld dL_law_1786 (sx 2 (by decide) hi hL) ?_
  refine wp_aload_n dL_law_1787 rfl rfl ?_
  refine wp_iload dL_law_1788 rfl ?_
  refine wp_iconst (v := 3) dL_law_1790 (by decide) ?_
  refine wp_iadd dL_law_1791 ?_
  refine wp_sld dL_law_1792 (sx 3 (by decide) hi hL) ?_
  refine wp_aload_n dL_law_1793 rfl rfl ?_
  refine wp_iload dL_law_1794 rfl ?_
  refine wp_iconst (v := 4) dL_law_1796 (by decide) ?_
  refine wp_iadd dL_law_1797 ?_
  refine wp_sld dL_law_1798 (sx 4 (by decide) hi hL) ?_
  refine wp_aload_n dL_law_1799 rfl rfl ?_
  refine wp_iload dL_law_1800 rfl ?_
  refine wp_iconst (v := 5) dL_law_1802 (by decide) ?_
  refine wp_iadd dL_law_1803 ?_
  refine wp_sld dL_law_1804 (sx 5 (by decide) hi hL) ?_
  refine wp_seeb (t1 := 1812) (t2 := 1813) dL_law_1805 (by decide) dL_law_1808 dL_law_1809 (by decide) dL_law_1812 (by decide) hb5 ?_
  refine wp_aload_n dL_law_1813 rfl rfl ?_
  refine wp_callSW (As := [.ref 0, .int (xs (Int32.ofNat i + 1).toNatClampNeg), .int (xs (Int32.ofNat i + 2).toNatClampNeg), .int (xs (Int32.ofNat i + 3).toNatClampNeg), .int (xs (Int32.ofNat i + 4).toNatClampNeg), .int b5, .ref 337]) dL_law_1814 lwL_see mlL_198 smL_see (ct_L_see 11 (Nat.le_refl _) hS h1 hE) rfl rfl (Nat.le_trans (by decide) hd) (Nat.le_of_ble_eq_true rfl) (fun _ _ _ _ h => h.2.2.2) (fun _ => ?_)
  show Wp RL cL_law 7 (some .boolean) [] (hLw L xs) d rc rs 1817 [(0, .ref (gSB + 300)), (1, .ref 0), (2, .ref 310), (3, .ref 337), (4, .int (Int32.ofNat i))] [.int (kL1 rv)] S I1 (jL rv J) QL
  refine wp_istore (ls' := [(5, .int (kL1 rv)), (0, .ref (gSB + 300)), (1, .ref 0), (2, .ref 310), (3, .ref 337), (4, .int (Int32.ofNat i))]) dL_law_1817 (Nat.le_of_ble_eq_true rfl) rfl ?_
  refine wp_aload_n dL_law_1819 rfl rfl ?_
  refine wp_aload_n dL_law_1820 rfl rfl ?_
  refine wp_iload dL_law_1821 rfl ?_
  refine wp_iconst (v := 1) dL_law_1823 (by decide) ?_
  refine wp_iadd dL_law_1824 ?_
  refine wp_sld dL_law_1825 (sx 1 (by decide) hi hL) ?_
  refine wp_aload_n dL_law_1826 rfl rfl ?_
  refine wp_iload dL_law_1827 rfl ?_
  refine wp_iconst (v := 2) dL_law_1829 (by decide) ?_
  refine wp_iadd dL_law_1830 ?_
  refine wp_sld dL_law_1831 (sx 2 (by decide) hi hL) ?_
  refine wp_aload_n dL_law_1832 rfl rfl ?_
  refine wp_iload dL_law_1833 rfl ?_
  refine wp_iconst (v := 3) dL_law_1835 (by decide) ?_
  refine wp_iadd dL_law_1836 ?_
  refine wp_sld dL_law_1837 (sx 3 (by decide) hi hL) ?_
  refine wp_aload_n dL_law_1838 rfl rfl ?_
  refine wp_iload dL_law_1839 rfl ?_
  refine wp_iconst (v := 4) dL_law_1841 (by decide) ?_
  refine wp_iadd dL_law_1842 ?_
  refine wp_sld dL_law_1843 (sx 4 (by decide) hi hL) ?_
  refine wp_aload_n dL_law_1844 rfl rfl ?_
  refine wp_iload dL_law_1845 rfl ?_
  refine wp_iconst (v := 5) dL_law_1847 (by decide) ?_
  refine wp_iadd dL_law_1848 ?_
  refine wp_sld dL_law_1849 (sx 5 (by decide) hi hL) ?_
  refine wp_seeb (t1 := 1857) (t2 := 1858) dL_law_1850 (by decide) dL_law_1853 dL_law_1854 (by decide) dL_law_1857 (by decide) hb5 ?_
  refine wp_callVi (ci := 11) (As := [.int (xs (Int32.ofNat i + 1).toNatClampNeg), .int (xs (Int32.ofNat i + 2).toNatClampNeg), .int (xs (Int32.ofNat i + 3).toNatClampNeg), .int (xs (Int32.ofNat i + 4).toNatClampNeg), .int b5]) dL_law_1858 lbX11_see mlL_201 imX11_see seX11_see vc11 (ct_X11_see 2 (Nat.le_refl _) hS h2) rfl rfl (Nat.le_trans (by decide) hd) (sk310 hS) (sn310 hS) (Nat.le_of_ble_eq_true rfl) (fun _ => ?_)
  show Wp RL cL_law 7 (some .boolean) [] (hLw L xs) d rc rs 1861 [(5, .int (kL1 rv)), (0, .ref (gSB + 300)), (1, .ref 0), (2, .ref 310), (3, .ref 337), (4, .int (Int32.ofNat i))] [.int bb] S I2 (jL rv J) QL
  refine wp_istore (ls' := [(6, .int bb), (5, .int (kL1 rv)), (0, .ref (gSB + 300)), (1, .ref 0), (2, .ref 310), (3, .ref 337), (4, .int (Int32.ofNat i))]) dL_law_1861 (Nat.le_of_ble_eq_true rfl) rfl ?_
  refine wp_aload_n dL_law_1863 rfl rfl ?_
  refine wp_callVi (ci := 11) (As := []) dL_law_1864 lbX11_thrown mlL_114 imX11_thrown seX11_thrown vc11 (ct_X11_thrown 0 (Nat.le_refl _) hS tm_thrown) rfl rfl (Nat.le_trans (by decide) hd) (sk310 hS) (sn310 hS) (Nat.le_of_ble_eq_true rfl) (fun _ => ?_)
  refine wp_iload dL_law_1867 rfl ?_
  refine wp_icmp_eq (tgt := 1874) dL_law_1869 (by decide) (fun _ => ?_) (fun hc => absurd ht hc)
  refine wp_iload dL_law_1874 rfl ?_
  refine wp_if_ne (tgt := 1891) dL_law_1876 (by decide) (fun _ => ?_) (fun hc => ?_)
  · refine wp_goto (tgt := 2133) dL_law_1891 (by decide) ?_
    exact wp_pick (ks := [2, 3, 4, 5, 6]) rfl (kk _ _ _ hS hI2)
  · have hk0 : kL1 rv = 0 := hc
    obtain ⟨v, rfl⟩ := kl1 hk0
    have hvb := hv v rfl
    refine wp_aload_n dL_law_1879 rfl rfl ?_
    refine wp_iconst (v := 0) dL_law_1880 (by decide) ?_
    refine wp_lald (n := 1) dL_law_1881 (sk337 hS) (sn337 hS) (inb_in (by decide)) ?_
    refine wp_iload dL_law_1882 rfl ?_
    refine wp_i2l dL_law_1884 ?_
    refine wp_lcmp dL_law_1885 ?_
    refine wp_if_eq (tgt := 1891) dL_law_1886 (by decide) (fun _ => ?_) (fun hc9 => absurd (lgc (by show (jL (.inl v) J) 337 0 = bb.toInt64; rw [jL_at, hvb])) hc9)
    refine wp_goto (tgt := 2133) dL_law_1891 (by decide) ?_
    exact wp_pick (ks := [2, 3, 4, 5, 6]) rfl (kk _ _ _ hS hI2)
def St_forget (N : Nat) (Inv : Nat → gI → Prop) : Prop := ∀ (c : Nat) (I : gI) (J : gJ) , c < 512 → Inv c I → ∃ (I1 : gI) (I2 : gI), mX10_forget I = some I1 ∧ mX11_forget I1 = some I2 ∧ Inv (c + 1) I2
set_option maxHeartbeats 4000000 in
set_option maxRecDepth 100000 in
theorem lc_forget {N L : Nat} {xs : Nat → Int32} {Inv : Nat → gI → Prop} (hst : St_forget N Inv) (d : Nat) (hd : 40 ≤ d) {rc rs i c : Nat} {S : gS} {I : gI} {J : gJ} (hi : i + 6 ≤ L) (hL : L ≤ 3072) (hS : Sh S) (hc : c < 512) (hI : Inv c I)
    (kk : ∀ S' I' J', Sh S' → Inv (c + 1) I' → Wp RL cL_law 7 (some .boolean) [] (hLw L xs) d rc rs 2133 [(0, .ref (gSB + 300)), (1, .ref 0), (2, .ref 310), (3, .ref 337), (4, .int (Int32.ofNat i))] [] S' I' J' QL) : Wp RL cL_law 7 (some .boolean) [] (hLw L xs) d rc rs 1894 [(0, .ref (gSB + 300)), (1, .ref 0), (2, .ref 310), (3, .ref 337), (4, .int (Int32.ofNat i))] [] S I J QL := by
  obtain ⟨I1, I2, h1, h2, hI2⟩ := hst c I J  hc hI
  refine wp_aload_n dL_law_1894 rfl rfl ?_
  refine wp_callVv (ci := 10) (As := []) dL_law_1895 lbX10_forget mlL_202 imX10_forget seX10_forget vc10 (ct_X10_forget 1 (Nat.le_refl _) hS h1) rfl rfl (Nat.le_trans (by decide) hd) (sk0 hS) (sn0 hS) (Nat.le_of_ble_eq_true rfl) (fun _ => ?_)
  refine wp_aload_n dL_law_1898 rfl rfl ?_
  refine wp_callVv (ci := 11) (As := []) dL_law_1899 lbX11_forget mlL_205 imX11_forget seX11_forget vc11 (ct_X11_forget 0 (Nat.le_refl _) hS h2) rfl rfl (Nat.le_trans (by decide) hd) (sk310 hS) (sn310 hS) (Nat.le_of_ble_eq_true rfl) (fun _ => ?_)
  refine wp_goto (tgt := 2133) dL_law_1902 (by decide) ?_
  exact kk _ _ _ hS hI2
def St_other (N : Nat) (Inv : Nat → gI → Prop) : Prop := ∀ (c : Nat) (I : gI) (J : gJ) (a1 : Int32), c < 512 → Inv c I → ∃ (rv : Int32 ⊕ String) (I1 : gI) (bb : Int32) (I2 : gI), mX10_other N a1 I = some (rv, I1) ∧ (∀ E, rv = .inr E → E = xnN) ∧ mX11_other N a1 I1 = some (bb, I2) ∧ I2 310 0 = kL1 rv ∧ (∀ v, rv = .inl v → v = bb) ∧ Inv (c + 1) I2
set_option maxHeartbeats 4000000 in
set_option maxRecDepth 100000 in
theorem lc_other {N L : Nat} {xs : Nat → Int32} {Inv : Nat → gI → Prop} (hst : St_other N Inv) (d : Nat) (hd : 40 ≤ d) {rc rs i c : Nat} {S : gS} {I : gI} {J : gJ} (hi : i + 6 ≤ L) (hL : L ≤ 3072) (hS : Sh S) (hc : c < 512) (hI : Inv c I)
    (kk : ∀ S' I' J', Sh S' → Inv (c + 1) I' → Wp RL cL_law 7 (some .boolean) [] (hLw L xs) d rc rs 2133 [(0, .ref (gSB + 300)), (1, .ref 0), (2, .ref 310), (3, .ref 337), (4, .int (Int32.ofNat i))] [] S' I' J' QL) : Wp RL cL_law 7 (some .boolean) [] (hLw L xs) d (rc + 1) (rs + 6) 1905 [(0, .ref (gSB + 300)), (1, .ref 0), (2, .ref 310), (3, .ref 337), (4, .int (Int32.ofNat i))] [] S I J QL := by
  obtain ⟨rv, I1, bb, I2, h1, hE, h2, ht, hv, hI2⟩ := hst c I J (xs (Int32.ofNat i + 1).toNatClampNeg) hc hI
  refine wp_aload_n dL_law_1905 rfl rfl ?_
  refine wp_aload_n dL_law_1906 rfl rfl ?_
  refine wp_iload dL_law_1907 rfl ?_
  refine wp_iconst (v := 1) dL_law_1909 (by decide) ?_
  refine wp_iadd dL_law_1910 ?_
  refine wp_sld dL_law_1911 (sx 1 (by decide) hi hL) ?_
  refine wp_aload_n dL_law_1912 rfl rfl ?_
  refine wp_callSW (As := [.ref 0, .int (xs (Int32.ofNat i + 1).toNatClampNeg), .ref 337]) dL_law_1913 lwL_other mlL_206 smL_other (ct_L_other N 10 (Nat.le_refl _) hS h1 hE) rfl rfl (Nat.le_trans (by decide) hd) (Nat.le_of_ble_eq_true rfl) (fun _ _ _ _ h => h.2.2.2) (fun _ => ?_)
  show Wp RL cL_law 7 (some .boolean) [] (hLw L xs) d rc rs 1916 [(0, .ref (gSB + 300)), (1, .ref 0), (2, .ref 310), (3, .ref 337), (4, .int (Int32.ofNat i))] [.int (kL1 rv)] S I1 (jL rv J) QL
  refine wp_istore (ls' := [(5, .int (kL1 rv)), (0, .ref (gSB + 300)), (1, .ref 0), (2, .ref 310), (3, .ref 337), (4, .int (Int32.ofNat i))]) dL_law_1916 (Nat.le_of_ble_eq_true rfl) rfl ?_
  refine wp_aload_n dL_law_1918 rfl rfl ?_
  refine wp_aload_n dL_law_1919 rfl rfl ?_
  refine wp_iload dL_law_1920 rfl ?_
  refine wp_iconst (v := 1) dL_law_1922 (by decide) ?_
  refine wp_iadd dL_law_1923 ?_
  refine wp_sld dL_law_1924 (sx 1 (by decide) hi hL) ?_
  refine wp_callVi (ci := 11) (As := [.int (xs (Int32.ofNat i + 1).toNatClampNeg)]) dL_law_1925 lbX11_other mlL_208 imX11_other seX11_other vc11 (ct_X11_other N 5 (Nat.le_refl _) hS h2) rfl rfl (Nat.le_trans (by decide) hd) (sk310 hS) (sn310 hS) (Nat.le_of_ble_eq_true rfl) (fun _ => ?_)
  show Wp RL cL_law 7 (some .boolean) [] (hLw L xs) d rc rs 1928 [(5, .int (kL1 rv)), (0, .ref (gSB + 300)), (1, .ref 0), (2, .ref 310), (3, .ref 337), (4, .int (Int32.ofNat i))] [.int bb] S I2 (jL rv J) QL
  refine wp_istore (ls' := [(6, .int bb), (5, .int (kL1 rv)), (0, .ref (gSB + 300)), (1, .ref 0), (2, .ref 310), (3, .ref 337), (4, .int (Int32.ofNat i))]) dL_law_1928 (Nat.le_of_ble_eq_true rfl) rfl ?_
  refine wp_aload_n dL_law_1930 rfl rfl ?_
  refine wp_callVi (ci := 11) (As := []) dL_law_1931 lbX11_thrown mlL_114 imX11_thrown seX11_thrown vc11 (ct_X11_thrown 0 (Nat.le_refl _) hS tm_thrown) rfl rfl (Nat.le_trans (by decide) hd) (sk310 hS) (sn310 hS) (Nat.le_of_ble_eq_true rfl) (fun _ => ?_)
  refine wp_iload dL_law_1934 rfl ?_
  refine wp_icmp_eq (tgt := 1941) dL_law_1936 (by decide) (fun _ => ?_) (fun hc => absurd ht hc)
  refine wp_iload dL_law_1941 rfl ?_
  refine wp_if_ne (tgt := 1958) dL_law_1943 (by decide) (fun _ => ?_) (fun hc => ?_)
  · refine wp_goto (tgt := 2133) dL_law_1958 (by decide) ?_
    exact wp_pick (ks := [2, 3, 4, 5, 6]) rfl (kk _ _ _ hS hI2)
  · have hk0 : kL1 rv = 0 := hc
    obtain ⟨v, rfl⟩ := kl1 hk0
    have hvb := hv v rfl
    refine wp_aload_n dL_law_1946 rfl rfl ?_
    refine wp_iconst (v := 0) dL_law_1947 (by decide) ?_
    refine wp_lald (n := 1) dL_law_1948 (sk337 hS) (sn337 hS) (inb_in (by decide)) ?_
    refine wp_iload dL_law_1949 rfl ?_
    refine wp_i2l dL_law_1951 ?_
    refine wp_lcmp dL_law_1952 ?_
    refine wp_if_eq (tgt := 1958) dL_law_1953 (by decide) (fun _ => ?_) (fun hc9 => absurd (lgc (by show (jL (.inl v) J) 337 0 = bb.toInt64; rw [jL_at, hvb])) hc9)
    refine wp_goto (tgt := 2133) dL_law_1958 (by decide) ?_
    exact wp_pick (ks := [2, 3, 4, 5, 6]) rfl (kk _ _ _ hS hI2)
def St_luck (N : Nat) (Inv : Nat → gI → Prop) : Prop := ∀ (c : Nat) (I : gI) (J : gJ) (a1 a2 : Int32), c < 512 → Inv c I → ∃ (rv : Int32 ⊕ String) (bb : Int32) (I2 : gI), mX10_luck N a1 a2 I = some rv ∧ (∀ E, rv = .inr E → E = xnN ∨ E = xnA) ∧ mX11_luck N a1 a2 I = some (bb, I2) ∧ I2 310 0 = kL2 rv ∧ (∀ v, rv = .inl v → v = bb) ∧ Inv (c + 1) I2
set_option maxHeartbeats 4000000 in
set_option maxRecDepth 100000 in
theorem lc_luck {N L : Nat} {xs : Nat → Int32} {Inv : Nat → gI → Prop} (hst : St_luck N Inv) (d : Nat) (hd : 40 ≤ d) {rc rs i c : Nat} {S : gS} {I : gI} {J : gJ} (hi : i + 6 ≤ L) (hL : L ≤ 3072) (hS : Sh S) (hc : c < 512) (hI : Inv c I)
    (kk : ∀ S' I' J', Sh S' → Inv (c + 1) I' → Wp RL cL_law 7 (some .boolean) [] (hLw L xs) d rc rs 2133 [(0, .ref (gSB + 300)), (1, .ref 0), (2, .ref 310), (3, .ref 337), (4, .int (Int32.ofNat i))] [] S' I' J' QL) : Wp RL cL_law 7 (some .boolean) [] (hLw L xs) d (rc + 2) (rs + 12) 1961 [(0, .ref (gSB + 300)), (1, .ref 0), (2, .ref 310), (3, .ref 337), (4, .int (Int32.ofNat i))] [] S I J QL := by
  obtain ⟨rv, bb, I2, h1, hE, h2, ht, hv, hI2⟩ := hst c I J (xs (Int32.ofNat i + 1).toNatClampNeg) (xs (Int32.ofNat i + 2).toNatClampNeg) hc hI
  refine wp_aload_n dL_law_1961 rfl rfl ?_
  refine wp_aload_n dL_law_1962 rfl rfl ?_
  refine wp_iload dL_law_1963 rfl ?_
  refine wp_iconst (v := 1) dL_law_1965 (by decide) ?_
  refine wp_iadd dL_law_1966 ?_
  refine wp_sld dL_law_1967 (sx 1 (by decide) hi hL) ?_
  refine wp_aload_n dL_law_1968 rfl rfl ?_
  refine wp_iload dL_law_1969 rfl ?_
  refine wp_iconst (v := 2) dL_law_1971 (by decide) ?_
  refine wp_iadd dL_law_1972 ?_
  refine wp_sld dL_law_1973 (sx 2 (by decide) hi hL) ?_
  refine wp_aload_n dL_law_1974 rfl rfl ?_
  refine wp_callSW (As := [.ref 0, .int (xs (Int32.ofNat i + 1).toNatClampNeg), .int (xs (Int32.ofNat i + 2).toNatClampNeg), .ref 337]) dL_law_1975 lwL_luck mlL_209 smL_luck (ct_L_luck N 11 (Nat.le_refl _) hS h1 hE) rfl rfl (Nat.le_trans (by decide) hd) (Nat.le_of_ble_eq_true rfl) (fun _ _ _ _ h => h.2.2.2) (fun _ => ?_)
  show Wp RL cL_law 7 (some .boolean) [] (hLw L xs) d rc rs 1978 [(0, .ref (gSB + 300)), (1, .ref 0), (2, .ref 310), (3, .ref 337), (4, .int (Int32.ofNat i))] [.int (kL2 rv)] S I (jL rv J) QL
  refine wp_istore (ls' := [(5, .int (kL2 rv)), (0, .ref (gSB + 300)), (1, .ref 0), (2, .ref 310), (3, .ref 337), (4, .int (Int32.ofNat i))]) dL_law_1978 (Nat.le_of_ble_eq_true rfl) rfl ?_
  refine wp_aload_n dL_law_1980 rfl rfl ?_
  refine wp_aload_n dL_law_1981 rfl rfl ?_
  refine wp_iload dL_law_1982 rfl ?_
  refine wp_iconst (v := 1) dL_law_1984 (by decide) ?_
  refine wp_iadd dL_law_1985 ?_
  refine wp_sld dL_law_1986 (sx 1 (by decide) hi hL) ?_
  refine wp_aload_n dL_law_1987 rfl rfl ?_
  refine wp_iload dL_law_1988 rfl ?_
  refine wp_iconst (v := 2) dL_law_1990 (by decide) ?_
  refine wp_iadd dL_law_1991 ?_
  refine wp_sld dL_law_1992 (sx 2 (by decide) hi hL) ?_
  refine wp_callVi (ci := 11) (As := [.int (xs (Int32.ofNat i + 1).toNatClampNeg), .int (xs (Int32.ofNat i + 2).toNatClampNeg)]) dL_law_1993 lbX11_luck mlL_211 imX11_luck seX11_luck vc11 (ct_X11_luck N 4 (Nat.le_refl _) hS h2) rfl rfl (Nat.le_trans (by decide) hd) (sk310 hS) (sn310 hS) (Nat.le_of_ble_eq_true rfl) (fun _ => ?_)
  show Wp RL cL_law 7 (some .boolean) [] (hLw L xs) d rc rs 1996 [(5, .int (kL2 rv)), (0, .ref (gSB + 300)), (1, .ref 0), (2, .ref 310), (3, .ref 337), (4, .int (Int32.ofNat i))] [.int bb] S I2 (jL rv J) QL
  refine wp_istore (ls' := [(6, .int bb), (5, .int (kL2 rv)), (0, .ref (gSB + 300)), (1, .ref 0), (2, .ref 310), (3, .ref 337), (4, .int (Int32.ofNat i))]) dL_law_1996 (Nat.le_of_ble_eq_true rfl) rfl ?_
  refine wp_aload_n dL_law_1998 rfl rfl ?_
  refine wp_callVi (ci := 11) (As := []) dL_law_1999 lbX11_thrown mlL_114 imX11_thrown seX11_thrown vc11 (ct_X11_thrown 0 (Nat.le_refl _) hS tm_thrown) rfl rfl (Nat.le_trans (by decide) hd) (sk310 hS) (sn310 hS) (Nat.le_of_ble_eq_true rfl) (fun _ => ?_)
  refine wp_iload dL_law_2002 rfl ?_
  refine wp_icmp_eq (tgt := 2009) dL_law_2004 (by decide) (fun _ => ?_) (fun hc => absurd ht hc)
  refine wp_iload dL_law_2009 rfl ?_
  refine wp_if_ne (tgt := 2026) dL_law_2011 (by decide) (fun _ => ?_) (fun hc => ?_)
  · refine wp_goto (tgt := 2133) dL_law_2026 (by decide) ?_
    exact wp_pick (ks := [2, 3, 4, 5, 6]) rfl (kk _ _ _ hS hI2)
  · have hk0 : kL2 rv = 0 := hc
    obtain ⟨v, rfl⟩ := kl2 hk0
    have hvb := hv v rfl
    refine wp_aload_n dL_law_2014 rfl rfl ?_
    refine wp_iconst (v := 0) dL_law_2015 (by decide) ?_
    refine wp_lald (n := 1) dL_law_2016 (sk337 hS) (sn337 hS) (inb_in (by decide)) ?_
    refine wp_iload dL_law_2017 rfl ?_
    refine wp_i2l dL_law_2019 ?_
    refine wp_lcmp dL_law_2020 ?_
    refine wp_if_eq (tgt := 2026) dL_law_2021 (by decide) (fun _ => ?_) (fun hc9 => absurd (lgc (by show (jL (.inl v) J) 337 0 = bb.toInt64; rw [jL_at, hvb])) hc9)
    refine wp_goto (tgt := 2133) dL_law_2026 (by decide) ?_
    exact wp_pick (ks := [2, 3, 4, 5, 6]) rfl (kk _ _ _ hS hI2)
def St_years (N : Nat) (Inv : Nat → gI → Prop) : Prop := ∀ (c : Nat) (I : gI) (J : gJ) (n9 : Nat) (a1 a2 a3 : Int32), c < 512 → Inv c I → 338 ≤ n9 → ∃ (rv : Int32 ⊕ String) (I1 : gI) (J1 : gJ) (bb : Int32) (I2 : gI), mX10_years N n9 a1 a2 a3 I J = some (rv, I1, J1) ∧ (∀ E, rv = .inr E → E = xnN ∨ E = xnA) ∧ mX11_years N a1 a2 a3 I1 = some (bb, I2) ∧ I2 310 0 = kL2 rv ∧ (∀ v, rv = .inl v → v = bb) ∧ Inv (c + 1) I2
set_option maxHeartbeats 4000000 in
set_option maxRecDepth 100000 in
theorem lc_years {N L : Nat} {xs : Nat → Int32} {Inv : Nat → gI → Prop} (hst : St_years N Inv) (d : Nat) (hd : 40 ≤ d) {rc rs i c : Nat} {S : gS} {I : gI} {J : gJ} (hi : i + 6 ≤ L) (hL : L ≤ 3072) (hS : Sh S) (hc : c < 512) (hI : Inv c I)
    (kk : ∀ S' I' J', Sh S' → Inv (c + 1) I' → Wp RL cL_law 7 (some .boolean) [] (hLw L xs) d rc rs 2133 [(0, .ref (gSB + 300)), (1, .ref 0), (2, .ref 310), (3, .ref 337), (4, .int (Int32.ofNat i))] [] S' I' J' QL) : Wp RL cL_law 7 (some .boolean) [] (hLw L xs) d (rc + 2) (rs + 10) 2029 [(0, .ref (gSB + 300)), (1, .ref 0), (2, .ref 310), (3, .ref 337), (4, .int (Int32.ofNat i))] [] S I J QL := by
  obtain ⟨rv, I1, J1, bb, I2, h1, hE, h2, ht, hv, hI2⟩ := hst c I J S.2.2 (xs (Int32.ofNat i + 1).toNatClampNeg) (xs (Int32.ofNat i + 2).toNatClampNeg) (xs (Int32.ofNat i + 3).toNatClampNeg) hc hI hS.2.2
  have hS1 : Sh (oS rv (updR (updR (newS S (14, 0)) S.2.2 0 (some 2)) S.2.2 1 (some 42)) S) := by cases rv <;> first | exact Sh_put2 hS.2.2 (Sh_nw9 hS) | exact hS
  refine wp_aload_n dL_law_2029 rfl rfl ?_
  refine wp_aload_n dL_law_2030 rfl rfl ?_
  refine wp_iload dL_law_2031 rfl ?_
  refine wp_iconst (v := 1) dL_law_2033 (by decide) ?_
  refine wp_iadd dL_law_2034 ?_
  refine wp_sld dL_law_2035 (sx 1 (by decide) hi hL) ?_
  refine wp_aload_n dL_law_2036 rfl rfl ?_
  refine wp_iload dL_law_2037 rfl ?_
  refine wp_iconst (v := 2) dL_law_2039 (by decide) ?_
  refine wp_iadd dL_law_2040 ?_
  refine wp_sld dL_law_2041 (sx 2 (by decide) hi hL) ?_
  refine wp_aload_n dL_law_2042 rfl rfl ?_
  refine wp_iload dL_law_2043 rfl ?_
  refine wp_iconst (v := 3) dL_law_2045 (by decide) ?_
  refine wp_iadd dL_law_2046 ?_
  refine wp_sld dL_law_2047 (sx 3 (by decide) hi hL) ?_
  refine wp_aload_n dL_law_2048 rfl rfl ?_
  refine wp_callSW (As := [.ref 0, .int (xs (Int32.ofNat i + 1).toNatClampNeg), .int (xs (Int32.ofNat i + 2).toNatClampNeg), .int (xs (Int32.ofNat i + 3).toNatClampNeg), .ref 337]) dL_law_2049 lwL_years mlL_212 smL_years (ct_L_years N 10 (Nat.le_refl _) hS rfl h1 hE) rfl rfl (Nat.le_trans (by decide) hd) (Nat.le_of_ble_eq_true rfl) (fun _ _ _ _ h => h.2.2.2) (fun _ => ?_)
  show Wp RL cL_law 7 (some .boolean) [] (hLw L xs) d rc rs 2052 [(0, .ref (gSB + 300)), (1, .ref 0), (2, .ref 310), (3, .ref 337), (4, .int (Int32.ofNat i))] [.int (kL2 rv)] (oS rv (updR (updR (newS S (14, 0)) S.2.2 0 (some 2)) S.2.2 1 (some 42)) S) I1 (jL rv J1) QL
  generalize (oS rv (updR (updR (newS S (14, 0)) S.2.2 0 (some 2)) S.2.2 1 (some 42)) S) = S1 at hS1 ⊢
  refine wp_istore (ls' := [(5, .int (kL2 rv)), (0, .ref (gSB + 300)), (1, .ref 0), (2, .ref 310), (3, .ref 337), (4, .int (Int32.ofNat i))]) dL_law_2052 (Nat.le_of_ble_eq_true rfl) rfl ?_
  refine wp_aload_n dL_law_2054 rfl rfl ?_
  refine wp_aload_n dL_law_2055 rfl rfl ?_
  refine wp_iload dL_law_2056 rfl ?_
  refine wp_iconst (v := 1) dL_law_2058 (by decide) ?_
  refine wp_iadd dL_law_2059 ?_
  refine wp_sld dL_law_2060 (sx 1 (by decide) hi hL) ?_
  refine wp_aload_n dL_law_2061 rfl rfl ?_
  refine wp_iload dL_law_2062 rfl ?_
  refine wp_iconst (v := 2) dL_law_2064 (by decide) ?_
  refine wp_iadd dL_law_2065 ?_
  refine wp_sld dL_law_2066 (sx 2 (by decide) hi hL) ?_
  refine wp_aload_n dL_law_2067 rfl rfl ?_
  refine wp_iload dL_law_2068 rfl ?_
  refine wp_iconst (v := 3) dL_law_2070 (by decide) ?_
  refine wp_iadd dL_law_2071 ?_
  refine wp_sld dL_law_2072 (sx 3 (by decide) hi hL) ?_
  refine wp_callVi (ci := 11) (As := [.int (xs (Int32.ofNat i + 1).toNatClampNeg), .int (xs (Int32.ofNat i + 2).toNatClampNeg), .int (xs (Int32.ofNat i + 3).toNatClampNeg)]) dL_law_2073 lbX11_years mlL_214 imX11_years seX11_years vc11 (ct_X11_years N 8 (Nat.le_refl _) hS1 h2) rfl rfl (Nat.le_trans (by decide) hd) (sk310 hS1) (sn310 hS1) (Nat.le_of_ble_eq_true rfl) (fun _ => ?_)
  show Wp RL cL_law 7 (some .boolean) [] (hLw L xs) d rc rs 2076 [(5, .int (kL2 rv)), (0, .ref (gSB + 300)), (1, .ref 0), (2, .ref 310), (3, .ref 337), (4, .int (Int32.ofNat i))] [.int bb] S1 I2 (jL rv J1) QL
  refine wp_istore (ls' := [(6, .int bb), (5, .int (kL2 rv)), (0, .ref (gSB + 300)), (1, .ref 0), (2, .ref 310), (3, .ref 337), (4, .int (Int32.ofNat i))]) dL_law_2076 (Nat.le_of_ble_eq_true rfl) rfl ?_
  refine wp_aload_n dL_law_2078 rfl rfl ?_
  refine wp_callVi (ci := 11) (As := []) dL_law_2079 lbX11_thrown mlL_114 imX11_thrown seX11_thrown vc11 (ct_X11_thrown 0 (Nat.le_refl _) hS1 tm_thrown) rfl rfl (Nat.le_trans (by decide) hd) (sk310 hS1) (sn310 hS1) (Nat.le_of_ble_eq_true rfl) (fun _ => ?_)
  refine wp_iload dL_law_2082 rfl ?_
  refine wp_icmp_eq (tgt := 2089) dL_law_2084 (by decide) (fun _ => ?_) (fun hc => absurd ht hc)
  refine wp_iload dL_law_2089 rfl ?_
  refine wp_if_ne (tgt := 2106) dL_law_2091 (by decide) (fun _ => ?_) (fun hc => ?_)
  · refine wp_goto (tgt := 2133) dL_law_2106 (by decide) ?_
    exact wp_pick (ks := [2, 3, 4, 5, 6]) rfl (kk _ _ _ hS1 hI2)
  · have hk0 : kL2 rv = 0 := hc
    obtain ⟨v, rfl⟩ := kl2 hk0
    have hvb := hv v rfl
    refine wp_aload_n dL_law_2094 rfl rfl ?_
    refine wp_iconst (v := 0) dL_law_2095 (by decide) ?_
    refine wp_lald (n := 1) dL_law_2096 (sk337 hS1) (sn337 hS1) (inb_in (by decide)) ?_
    refine wp_iload dL_law_2097 rfl ?_
    refine wp_i2l dL_law_2099 ?_
    refine wp_lcmp dL_law_2100 ?_
    refine wp_if_eq (tgt := 2106) dL_law_2101 (by decide) (fun _ => ?_) (fun hc9 => absurd (lgc (by show (jL (.inl v) J1) 337 0 = bb.toInt64; rw [jL_at, hvb])) hc9)
    refine wp_goto (tgt := 2133) dL_law_2106 (by decide) ?_
    exact wp_pick (ks := [2, 3, 4, 5, 6]) rfl (kk _ _ _ hS1 hI2)
def St_image (N : Nat) (Inv : Nat → gI → Prop) : Prop := ∀ (c : Nat) (I : gI) (J : gJ) , c < 512 → Inv c I → ∃ (I1 : gI) (I2 : gI), mX10_image N I = some I1 ∧ mX11_image N I1 = some I2 ∧ Inv (c + 1) I2
set_option maxHeartbeats 4000000 in
set_option maxRecDepth 100000 in
theorem lc_image {N L : Nat} {xs : Nat → Int32} {Inv : Nat → gI → Prop} (hst : St_image N Inv) (d : Nat) (hd : 40 ≤ d) {rc rs i c : Nat} {S : gS} {I : gI} {J : gJ} (hi : i + 6 ≤ L) (hL : L ≤ 3072) (hS : Sh S) (hc : c < 512) (hI : Inv c I)
    (kk : ∀ S' I' J', Sh S' → Inv (c + 1) I' → Wp RL cL_law 7 (some .boolean) [] (hLw L xs) d rc rs 2133 [(0, .ref (gSB + 300)), (1, .ref 0), (2, .ref 310), (3, .ref 337), (4, .int (Int32.ofNat i))] [] S' I' J' QL) : Wp RL cL_law 7 (some .boolean) [] (hLw L xs) d rc rs 2109 [(0, .ref (gSB + 300)), (1, .ref 0), (2, .ref 310), (3, .ref 337), (4, .int (Int32.ofNat i))] [] S I J QL := by
  obtain ⟨I1, I2, h1, h2, hI2⟩ := hst c I J  hc hI
  refine wp_aload_n dL_law_2109 rfl rfl ?_
  refine wp_callVv (ci := 10) (As := []) dL_law_2110 lbX10_image mlL_215 imX10_image seX10_image vc10 (ct_X10_image N 2 (Nat.le_refl _) hS h1) rfl rfl (Nat.le_trans (by decide) hd) (sk0 hS) (sn0 hS) (Nat.le_of_ble_eq_true rfl) (fun _ => ?_)
  refine wp_aload_n dL_law_2113 rfl rfl ?_
  refine wp_callVv (ci := 11) (As := []) dL_law_2114 lbX11_image mlL_218 imX11_image seX11_image vc11 (ct_X11_image N 1 (Nat.le_refl _) hS h2) rfl rfl (Nat.le_trans (by decide) hd) (sk310 hS) (sn310 hS) (Nat.le_of_ble_eq_true rfl) (fun _ => ?_)
  refine wp_goto (tgt := 2133) dL_law_2117 (by decide) ?_
  exact kk _ _ _ hS hI2
def St_restore (N : Nat) (Inv : Nat → gI → Prop) : Prop := ∀ (c : Nat) (I : gI) (J : gJ) , c < 512 → Inv c I → ∃ (rr : Int32) (I1 : gI) (I2 : gI), mX10_restore N I = some (rr, I1) ∧ mX11_restore N I1 = some (rr, I2) ∧ Inv (c + 1) I2
set_option maxHeartbeats 4000000 in
set_option maxRecDepth 100000 in
theorem lc_restore {N L : Nat} {xs : Nat → Int32} {Inv : Nat → gI → Prop} (hst : St_restore N Inv) (d : Nat) (hd : 40 ≤ d) {rc rs i c : Nat} {S : gS} {I : gI} {J : gJ} (hi : i + 6 ≤ L) (hL : L ≤ 3072) (hS : Sh S) (hc : c < 512) (hI : Inv c I)
    (kk : ∀ S' I' J', Sh S' → Inv (c + 1) I' → Wp RL cL_law 7 (some .boolean) [] (hLw L xs) d rc rs 2133 [(0, .ref (gSB + 300)), (1, .ref 0), (2, .ref 310), (3, .ref 337), (4, .int (Int32.ofNat i))] [] S' I' J' QL) : Wp RL cL_law 7 (some .boolean) [] (hLw L xs) d rc rs 2120 [(0, .ref (gSB + 300)), (1, .ref 0), (2, .ref 310), (3, .ref 337), (4, .int (Int32.ofNat i))] [] S I J QL := by
  obtain ⟨rr, I1, I2, h1, h2, hI2⟩ := hst c I J  hc hI
  refine wp_aload_n dL_law_2120 rfl rfl ?_
  refine wp_callVi (ci := 10) (As := []) dL_law_2121 lbX10_restore mlL_219 imX10_restore seX10_restore vc10 (ct_X10_restore N 2 (Nat.le_refl _) hS h1) rfl rfl (Nat.le_trans (by decide) hd) (sk0 hS) (sn0 hS) (Nat.le_of_ble_eq_true rfl) (fun _ => ?_)
  refine wp_aload_n dL_law_2124 rfl rfl ?_
  refine wp_callVi (ci := 11) (As := []) dL_law_2125 lbX11_restore mlL_223 imX11_restore seX11_restore vc11 (ct_X11_restore N 1 (Nat.le_refl _) hS h2) rfl rfl (Nat.le_trans (by decide) hd) (sk310 hS) (sn310 hS) (Nat.le_of_ble_eq_true rfl) (fun _ => ?_)
  refine wp_icmp_eq (tgt := 2133) dL_law_2128 (by decide) (fun _ => ?_) (fun hc => absurd rfl hc)
  exact kk _ _ _ hS hI2
