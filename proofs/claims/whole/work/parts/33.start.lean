/-! the law from its entry to its loop -/
def I9 : gI := (upd2 (upd2 (upd2 (upd2 (upd2 (upd2 (upd2 (upd2 (upd2 (upd2 (upd2 (upd2 (upd2 (upd2 (upd2 (fun _ _ => 0) 0 2 (-1)) 2 0 2) 15 0 2) 28 7 (-1)) 310 4 (-1)) 310 13 2) 317 10 (-1)) 317 11 (-1)) 317 12 (-1)) 317 13 (-1)) 317 14 (-1)) 317 15 (-1)) 317 16 (-1)) 317 17 (-1)) 317 18 (-1))
def K337 : List (Nat × Nat) := [(15, 0), (1, 700), (9, 0), (0, 16), (0, 16), (0, 16), (0, 16), (0, 16), (0, 9), (0, 9), (0, 9), (0, 9), (0, 9), (0, 9), (0, 9), (9, 0), (0, 16), (0, 16), (0, 16), (0, 16), (0, 16), (0, 9), (0, 9), (0, 9), (0, 9), (0, 9), (0, 9), (0, 9), (10, 0), (1, 0), (11, 0), (0, 16), (0, 64), (0, 64), (0, 16), (0, 8), (13, 0), (0, 9), (0, 9), (13, 0), (0, 9), (0, 9), (7, 0), (8, 0), (13, 0), (0, 9), (0, 9), (0, 16), (0, 9), (0, 512), (7, 0), (5, 0), (4, 40), (13, 0), (0, 9), (0, 9), (13, 0), (0, 9), (0, 9), (13, 0), (0, 9), (0, 9), (13, 0), (0, 9), (0, 9), (13, 0), (0, 9), (0, 9), (13, 0), (0, 9), (0, 9), (13, 0), (0, 9), (0, 9), (13, 0), (0, 9), (0, 9), (13, 0), (0, 9), (0, 9), (13, 0), (0, 9), (0, 9), (13, 0), (0, 9), (0, 9), (13, 0), (0, 9), (0, 9), (13, 0), (0, 9), (0, 9), (13, 0), (0, 9), (0, 9), (13, 0), (0, 9), (0, 9), (13, 0), (0, 9), (0, 9), (13, 0), (0, 9), (0, 9), (13, 0), (0, 9), (0, 9), (13, 0), (0, 9), (0, 9), (13, 0), (0, 9), (0, 9), (13, 0), (0, 9), (0, 9), (13, 0), (0, 9), (0, 9), (13, 0), (0, 9), (0, 9), (13, 0), (0, 9), (0, 9), (13, 0), (0, 9), (0, 9), (13, 0), (0, 9), (0, 9), (13, 0), (0, 9), (0, 9), (13, 0), (0, 9), (0, 9), (13, 0), (0, 9), (0, 9), (13, 0), (0, 9), (0, 9), (13, 0), (0, 9), (0, 9), (13, 0), (0, 9), (0, 9), (13, 0), (0, 9), (0, 9), (13, 0), (0, 9), (0, 9), (13, 0), (0, 9), (0, 9), (13, 0), (0, 9), (0, 9), (13, 0), (0, 9), (0, 9), (13, 0), (0, 9), (0, 9), (13, 0), (0, 9), (0, 9), (13, 0), (0, 9), (0, 9), (12, 0), (0, 8), (0, 8), (0, 8), (0, 8), (2, 8), (13, 0), (0, 9), (0, 9), (5, 0), (4, 40), (13, 0), (0, 9), (0, 9), (13, 0), (0, 9), (0, 9), (13, 0), (0, 9), (0, 9), (13, 0), (0, 9), (0, 9), (13, 0), (0, 9), (0, 9), (13, 0), (0, 9), (0, 9), (13, 0), (0, 9), (0, 9), (13, 0), (0, 9), (0, 9), (13, 0), (0, 9), (0, 9), (13, 0), (0, 9), (0, 9), (13, 0), (0, 9), (0, 9), (13, 0), (0, 9), (0, 9), (13, 0), (0, 9), (0, 9), (13, 0), (0, 9), (0, 9), (13, 0), (0, 9), (0, 9), (13, 0), (0, 9), (0, 9), (13, 0), (0, 9), (0, 9), (13, 0), (0, 9), (0, 9), (13, 0), (0, 9), (0, 9), (13, 0), (0, 9), (0, 9), (13, 0), (0, 9), (0, 9), (13, 0), (0, 9), (0, 9), (13, 0), (0, 9), (0, 9), (13, 0), (0, 9), (0, 9), (13, 0), (0, 9), (0, 9), (13, 0), (0, 9), (0, 9), (13, 0), (0, 9), (0, 9), (13, 0), (0, 9), (0, 9), (13, 0), (0, 9), (0, 9), (13, 0), (0, 9), (0, 9), (13, 0), (0, 9), (0, 9), (13, 0), (0, 9), (0, 9), (13, 0), (0, 9), (0, 9), (13, 0), (0, 9), (0, 9), (13, 0), (0, 9), (0, 9), (13, 0), (0, 9), (0, 9), (13, 0), (0, 9), (0, 9), (13, 0), (0, 9), (0, 9), (13, 0), (0, 9), (0, 9), (13, 0), (0, 9), (0, 9), (12, 0), (0, 8), (0, 8), (0, 8), (0, 8), (2, 8), (16, 0), (0, 700), (0, 3), (0, 80), (0, 80), (0, 63), (0, 63), (0, 164), (0, 3280), (2, 16), (0, 16), (0, 8), (0, 7), (0, 2048), (0, 2048), (0, 9), (0, 63), (0, 9), (2, 512), (0, 16), (0, 16), (0, 8), (0, 8), (0, 40), (0, 82), (0, 3280), (0, 40)]
def R337 : List ((Nat × Nat) × Nat) := [((310, 53), 336), ((310, 52), 335), ((310, 51), 334), ((310, 46), 333), ((310, 44), 332), ((310, 43), 331), ((310, 42), 330), ((310, 41), 329), ((310, 40), 328), ((310, 39), 327), ((310, 38), 326), ((310, 37), 325), ((310, 31), 324), ((310, 30), 323), ((310, 29), 322), ((310, 28), 321), ((310, 27), 320), ((310, 26), 319), ((310, 24), 318), ((310, 23), 317), ((310, 22), 316), ((310, 21), 315), ((310, 20), 314), ((310, 19), 313), ((310, 5), 312), ((310, 1), 311), ((0, 19), 304), ((304, 4), 309), ((304, 3), 308), ((304, 2), 307), ((304, 1), 306), ((304, 0), 305), ((0, 18), 182), ((183, 39), 301), ((301, 1), 303), ((301, 0), 302), ((183, 38), 298), ((298, 1), 300), ((298, 0), 299), ((183, 37), 295), ((295, 1), 297), ((295, 0), 296), ((183, 36), 292), ((292, 1), 294), ((292, 0), 293), ((183, 35), 289), ((289, 1), 291), ((289, 0), 290), ((183, 34), 286), ((286, 1), 288), ((286, 0), 287), ((183, 33), 283), ((283, 1), 285), ((283, 0), 284), ((183, 32), 280), ((280, 1), 282), ((280, 0), 281), ((183, 31), 277), ((277, 1), 279), ((277, 0), 278), ((183, 30), 274), ((274, 1), 276), ((274, 0), 275), ((183, 29), 271), ((271, 1), 273), ((271, 0), 272), ((183, 28), 268), ((268, 1), 270), ((268, 0), 269), ((183, 27), 265), ((265, 1), 267), ((265, 0), 266), ((183, 26), 262), ((262, 1), 264), ((262, 0), 263), ((183, 25), 259), ((259, 1), 261), ((259, 0), 260), ((183, 24), 256), ((256, 1), 258), ((256, 0), 257), ((183, 23), 253), ((253, 1), 255), ((253, 0), 254), ((183, 22), 250), ((250, 1), 252), ((250, 0), 251), ((183, 21), 247), ((247, 1), 249), ((247, 0), 248), ((183, 20), 244), ((244, 1), 246), ((244, 0), 245), ((183, 19), 241), ((241, 1), 243), ((241, 0), 242), ((183, 18), 238), ((238, 1), 240), ((238, 0), 239), ((183, 17), 235), ((235, 1), 237), ((235, 0), 236), ((183, 16), 232), ((232, 1), 234), ((232, 0), 233), ((183, 15), 229), ((229, 1), 231), ((229, 0), 230), ((183, 14), 226), ((226, 1), 228), ((226, 0), 227), ((183, 13), 223), ((223, 1), 225), ((223, 0), 224), ((183, 12), 220), ((220, 1), 222), ((220, 0), 221), ((183, 11), 217), ((217, 1), 219), ((217, 0), 218), ((183, 10), 214), ((214, 1), 216), ((214, 0), 215), ((183, 9), 211), ((211, 1), 213), ((211, 0), 212), ((183, 8), 208), ((208, 1), 210), ((208, 0), 209), ((183, 7), 205), ((205, 1), 207), ((205, 0), 206), ((183, 6), 202), ((202, 1), 204), ((202, 0), 203), ((183, 5), 199), ((199, 1), 201), ((199, 0), 200), ((183, 4), 196), ((196, 1), 198), ((196, 0), 197), ((183, 3), 193), ((193, 1), 195), ((193, 0), 194), ((183, 2), 190), ((190, 1), 192), ((190, 0), 191), ((183, 1), 187), ((187, 1), 189), ((187, 0), 188), ((183, 0), 184), ((184, 1), 186), ((184, 0), 185), ((182, 0), 183), ((0, 17), 179), ((179, 1), 181), ((179, 0), 180), ((0, 15), 173), ((173, 4), 178), ((173, 3), 177), ((173, 2), 176), ((173, 1), 175), ((173, 0), 174), ((0, 14), 51), ((52, 39), 170), ((170, 1), 172), ((170, 0), 171), ((52, 38), 167), ((167, 1), 169), ((167, 0), 168), ((52, 37), 164), ((164, 1), 166), ((164, 0), 165), ((52, 36), 161), ((161, 1), 163), ((161, 0), 162), ((52, 35), 158), ((158, 1), 160), ((158, 0), 159), ((52, 34), 155), ((155, 1), 157), ((155, 0), 156), ((52, 33), 152), ((152, 1), 154), ((152, 0), 153), ((52, 32), 149), ((149, 1), 151), ((149, 0), 150), ((52, 31), 146), ((146, 1), 148), ((146, 0), 147), ((52, 30), 143), ((143, 1), 145), ((143, 0), 144), ((52, 29), 140), ((140, 1), 142), ((140, 0), 141), ((52, 28), 137), ((137, 1), 139), ((137, 0), 138), ((52, 27), 134), ((134, 1), 136), ((134, 0), 135), ((52, 26), 131), ((131, 1), 133), ((131, 0), 132), ((52, 25), 128), ((128, 1), 130), ((128, 0), 129), ((52, 24), 125), ((125, 1), 127), ((125, 0), 126), ((52, 23), 122), ((122, 1), 124), ((122, 0), 123), ((52, 22), 119), ((119, 1), 121), ((119, 0), 120), ((52, 21), 116), ((116, 1), 118), ((116, 0), 117), ((52, 20), 113), ((113, 1), 115), ((113, 0), 114), ((52, 19), 110), ((110, 1), 112), ((110, 0), 111), ((52, 18), 107), ((107, 1), 109), ((107, 0), 108), ((52, 17), 104), ((104, 1), 106), ((104, 0), 105), ((52, 16), 101), ((101, 1), 103), ((101, 0), 102), ((52, 15), 98), ((98, 1), 100), ((98, 0), 99), ((52, 14), 95), ((95, 1), 97), ((95, 0), 96), ((52, 13), 92), ((92, 1), 94), ((92, 0), 93), ((52, 12), 89), ((89, 1), 91), ((89, 0), 90), ((52, 11), 86), ((86, 1), 88), ((86, 0), 87), ((52, 10), 83), ((83, 1), 85), ((83, 0), 84), ((52, 9), 80), ((80, 1), 82), ((80, 0), 81), ((52, 8), 77), ((77, 1), 79), ((77, 0), 78), ((52, 7), 74), ((74, 1), 76), ((74, 0), 75), ((52, 6), 71), ((71, 1), 73), ((71, 0), 72), ((52, 5), 68), ((68, 1), 70), ((68, 0), 69), ((52, 4), 65), ((65, 1), 67), ((65, 0), 66), ((52, 3), 62), ((62, 1), 64), ((62, 0), 63), ((52, 2), 59), ((59, 1), 61), ((59, 0), 60), ((52, 1), 56), ((56, 1), 58), ((56, 0), 57), ((52, 0), 53), ((53, 1), 55), ((53, 0), 54), ((51, 0), 52), ((0, 13), 43), ((43, 4), 50), ((50, 2), 44), ((50, 1), 30), ((50, 0), 2), ((43, 2), 36), ((43, 1), 42), ((43, 0), 2), ((43, 7), 49), ((43, 6), 48), ((43, 5), 47), ((43, 3), 44), ((44, 1), 46), ((44, 0), 45), ((0, 12), 42), ((42, 2), 36), ((42, 1), 30), ((42, 0), 2), ((0, 11), 39), ((39, 1), 41), ((39, 0), 40), ((0, 10), 36), ((36, 1), 38), ((36, 0), 37), ((0, 9), 30), ((30, 0), 2), ((30, 5), 35), ((30, 4), 34), ((30, 3), 33), ((30, 2), 32), ((30, 1), 31), ((0, 8), 28), ((28, 0), 29), ((0, 7), 15), ((15, 14), 27), ((15, 13), 26), ((15, 12), 25), ((15, 11), 24), ((15, 10), 23), ((15, 9), 22), ((15, 8), 21), ((15, 7), 20), ((15, 6), 19), ((15, 5), 18), ((15, 4), 17), ((15, 3), 16), ((0, 6), 2), ((2, 14), 14), ((2, 13), 13), ((2, 12), 12), ((2, 11), 11), ((2, 10), 10), ((2, 9), 9), ((2, 8), 8), ((2, 7), 7), ((2, 6), 6), ((2, 5), 5), ((2, 4), 4), ((2, 3), 3), ((0, 0), 1)]
theorem shK_ok : ∀ k, k < 338 → (K337 ++ [(3, 1)])[k]? = shK[k]? := by decide +kernel
theorem shR_ok : ((List.range 338).all fun k => (shR.getD k []).zipIdx.all fun q => match q.1 with | none => true | some r => R337.any fun z => Nat.beq z.1.1 k && Nat.beq z.1.2 q.2 && Nat.beq z.2 r) = true := by decide +kernel
theorem Sh_start {S0 S : gS} {I : gI} {J : gJ} (h : Bz 0 S0 S (K337 ++ [(3, 1)]) R337 I J) : Sh S := by
  have hl : (K337 ++ [(3, 1)]).length = 338 := by decide +kernel
  refine ⟨fun k kd hk => ?_, fun k j r hr => ?_, ?_⟩
  · have := h.2.1 k kd (by rw [shK_ok k (shK_lt hk)]; exact hk)
    rw [Nat.zero_add] at this
    exact this
  · have h1 := List.all_eq_true.mp shR_ok k (List.mem_range.mpr (shR_lt hr))
    cases e : shR[k]? with
    | none => rw [e] at hr; cases hr
    | some l =>
      rw [e] at hr
      rw [show shR.getD k [] = l by rw [List.getD_eq_getElem?_getD, e]; rfl] at h1
      have h2 := List.all_eq_true.mp h1 (some r, j) (List.mem_zipIdx_iff_getElem?.mpr hr)
      obtain ⟨z, hz, h3⟩ := List.any_eq_true.mp h2
      simp only [Bool.and_eq_true] at h3
      have := h.2.2.1 z hz
      rw [Nat.eq_of_beq_eq_true h3.1.1, Nat.eq_of_beq_eq_true h3.1.2, Nat.eq_of_beq_eq_true h3.2, Nat.zero_add] at this
      exact this
  · rw [h.1, hl]; exact Nat.le_add_left _ _
set_option maxHeartbeats 8000000 in
set_option maxRecDepth 100000 in
theorem law_start (N : Nat) {L : Nat} {xs : Nat → Int32} (hL : L ≤ 3072) {Inv : Nat → gI → Prop} (hst : Steps9 N Inv) (h0 : Inv 0 I9) (d : Nat) (hd : 40 ≤ d) {S : gS} (hB : Bz 0 S S [] [] (fun _ _ => 0) (fun _ _ => 0)) :
    Wp RL cL_law 7 (some .boolean) [] (hLw L xs) d 3000 40000 0 [(0, .ref (gSB + 300))] [] S (fun _ _ => 0) (fun _ _ => 0) QL := by
  show Wp RL cL_law 7 (some .boolean) [] (hLw L xs) d (2999 + 1) (39980 + 20) 0 _ _ S _ _ QL
  refine wp_new dL_law_0 kc10 clL_8 it10 ii10 dv10 ?_
  rw [hB.zi, hB.zj, show S.2.2 = 0 from hB.1]
  have hB : Bz 0 S (newS S (15, 0)) [(15, 0)] [] (fun _ _ => 0) (fun _ _ => 0) := hB.new (15, 0) rfl
  generalize newS S (15, 0) = S1 at hB ⊢
  refine wp_dup dL_law_3 rfl ?_
  show Wp RL cL_law 7 (some .boolean) [] (hLw L xs) d (2690 + 309) (36283 + 3697) 4 _ _ S1 _ _ QL
  refine wp_callB (As := []) dL_law_4 lbX10_init (Or.inl mlL_99) imX10_init rfl (ct_X10_init 3 (Nat.le_refl _) (hB.sub 0 rfl rfl)) rfl rfl (Nat.le_trans (by decide) hd) (Nat.le_of_ble_eq_true rfl) (fun S2 hB2 => ?_)
  have hB : Bz 0 S S2 [(15, 0), (1, 700), (9, 0), (0, 16), (0, 16), (0, 16), (0, 16), (0, 16), (0, 9), (0, 9), (0, 9), (0, 9), (0, 9), (0, 9), (0, 9), (9, 0), (0, 16), (0, 16), (0, 16), (0, 16), (0, 16), (0, 9), (0, 9), (0, 9), (0, 9), (0, 9), (0, 9), (0, 9), (10, 0), (1, 0), (11, 0), (0, 16), (0, 64), (0, 64), (0, 16), (0, 8), (13, 0), (0, 9), (0, 9), (13, 0), (0, 9), (0, 9), (7, 0), (8, 0), (13, 0), (0, 9), (0, 9), (0, 16), (0, 9), (0, 512), (7, 0), (5, 0), (4, 40), (13, 0), (0, 9), (0, 9), (13, 0), (0, 9), (0, 9), (13, 0), (0, 9), (0, 9), (13, 0), (0, 9), (0, 9), (13, 0), (0, 9), (0, 9), (13, 0), (0, 9), (0, 9), (13, 0), (0, 9), (0, 9), (13, 0), (0, 9), (0, 9), (13, 0), (0, 9), (0, 9), (13, 0), (0, 9), (0, 9), (13, 0), (0, 9), (0, 9), (13, 0), (0, 9), (0, 9), (13, 0), (0, 9), (0, 9), (13, 0), (0, 9), (0, 9), (13, 0), (0, 9), (0, 9), (13, 0), (0, 9), (0, 9), (13, 0), (0, 9), (0, 9), (13, 0), (0, 9), (0, 9), (13, 0), (0, 9), (0, 9), (13, 0), (0, 9), (0, 9), (13, 0), (0, 9), (0, 9), (13, 0), (0, 9), (0, 9), (13, 0), (0, 9), (0, 9), (13, 0), (0, 9), (0, 9), (13, 0), (0, 9), (0, 9), (13, 0), (0, 9), (0, 9), (13, 0), (0, 9), (0, 9), (13, 0), (0, 9), (0, 9), (13, 0), (0, 9), (0, 9), (13, 0), (0, 9), (0, 9), (13, 0), (0, 9), (0, 9), (13, 0), (0, 9), (0, 9), (13, 0), (0, 9), (0, 9), (13, 0), (0, 9), (0, 9), (13, 0), (0, 9), (0, 9), (13, 0), (0, 9), (0, 9), (13, 0), (0, 9), (0, 9), (13, 0), (0, 9), (0, 9), (13, 0), (0, 9), (0, 9), (13, 0), (0, 9), (0, 9), (12, 0), (0, 8), (0, 8), (0, 8), (0, 8), (2, 8), (13, 0), (0, 9), (0, 9), (5, 0), (4, 40), (13, 0), (0, 9), (0, 9), (13, 0), (0, 9), (0, 9), (13, 0), (0, 9), (0, 9), (13, 0), (0, 9), (0, 9), (13, 0), (0, 9), (0, 9), (13, 0), (0, 9), (0, 9), (13, 0), (0, 9), (0, 9), (13, 0), (0, 9), (0, 9), (13, 0), (0, 9), (0, 9), (13, 0), (0, 9), (0, 9), (13, 0), (0, 9), (0, 9), (13, 0), (0, 9), (0, 9), (13, 0), (0, 9), (0, 9), (13, 0), (0, 9), (0, 9), (13, 0), (0, 9), (0, 9), (13, 0), (0, 9), (0, 9), (13, 0), (0, 9), (0, 9), (13, 0), (0, 9), (0, 9), (13, 0), (0, 9), (0, 9), (13, 0), (0, 9), (0, 9), (13, 0), (0, 9), (0, 9), (13, 0), (0, 9), (0, 9), (13, 0), (0, 9), (0, 9), (13, 0), (0, 9), (0, 9), (13, 0), (0, 9), (0, 9), (13, 0), (0, 9), (0, 9), (13, 0), (0, 9), (0, 9), (13, 0), (0, 9), (0, 9), (13, 0), (0, 9), (0, 9), (13, 0), (0, 9), (0, 9), (13, 0), (0, 9), (0, 9), (13, 0), (0, 9), (0, 9), (13, 0), (0, 9), (0, 9), (13, 0), (0, 9), (0, 9), (13, 0), (0, 9), (0, 9), (13, 0), (0, 9), (0, 9), (13, 0), (0, 9), (0, 9), (13, 0), (0, 9), (0, 9), (13, 0), (0, 9), (0, 9), (13, 0), (0, 9), (0, 9), (12, 0), (0, 8), (0, 8), (0, 8), (0, 8), (2, 8)] [((0, 19), 304), ((304, 4), 309), ((304, 3), 308), ((304, 2), 307), ((304, 1), 306), ((304, 0), 305), ((0, 18), 182), ((183, 39), 301), ((301, 1), 303), ((301, 0), 302), ((183, 38), 298), ((298, 1), 300), ((298, 0), 299), ((183, 37), 295), ((295, 1), 297), ((295, 0), 296), ((183, 36), 292), ((292, 1), 294), ((292, 0), 293), ((183, 35), 289), ((289, 1), 291), ((289, 0), 290), ((183, 34), 286), ((286, 1), 288), ((286, 0), 287), ((183, 33), 283), ((283, 1), 285), ((283, 0), 284), ((183, 32), 280), ((280, 1), 282), ((280, 0), 281), ((183, 31), 277), ((277, 1), 279), ((277, 0), 278), ((183, 30), 274), ((274, 1), 276), ((274, 0), 275), ((183, 29), 271), ((271, 1), 273), ((271, 0), 272), ((183, 28), 268), ((268, 1), 270), ((268, 0), 269), ((183, 27), 265), ((265, 1), 267), ((265, 0), 266), ((183, 26), 262), ((262, 1), 264), ((262, 0), 263), ((183, 25), 259), ((259, 1), 261), ((259, 0), 260), ((183, 24), 256), ((256, 1), 258), ((256, 0), 257), ((183, 23), 253), ((253, 1), 255), ((253, 0), 254), ((183, 22), 250), ((250, 1), 252), ((250, 0), 251), ((183, 21), 247), ((247, 1), 249), ((247, 0), 248), ((183, 20), 244), ((244, 1), 246), ((244, 0), 245), ((183, 19), 241), ((241, 1), 243), ((241, 0), 242), ((183, 18), 238), ((238, 1), 240), ((238, 0), 239), ((183, 17), 235), ((235, 1), 237), ((235, 0), 236), ((183, 16), 232), ((232, 1), 234), ((232, 0), 233), ((183, 15), 229), ((229, 1), 231), ((229, 0), 230), ((183, 14), 226), ((226, 1), 228), ((226, 0), 227), ((183, 13), 223), ((223, 1), 225), ((223, 0), 224), ((183, 12), 220), ((220, 1), 222), ((220, 0), 221), ((183, 11), 217), ((217, 1), 219), ((217, 0), 218), ((183, 10), 214), ((214, 1), 216), ((214, 0), 215), ((183, 9), 211), ((211, 1), 213), ((211, 0), 212), ((183, 8), 208), ((208, 1), 210), ((208, 0), 209), ((183, 7), 205), ((205, 1), 207), ((205, 0), 206), ((183, 6), 202), ((202, 1), 204), ((202, 0), 203), ((183, 5), 199), ((199, 1), 201), ((199, 0), 200), ((183, 4), 196), ((196, 1), 198), ((196, 0), 197), ((183, 3), 193), ((193, 1), 195), ((193, 0), 194), ((183, 2), 190), ((190, 1), 192), ((190, 0), 191), ((183, 1), 187), ((187, 1), 189), ((187, 0), 188), ((183, 0), 184), ((184, 1), 186), ((184, 0), 185), ((182, 0), 183), ((0, 17), 179), ((179, 1), 181), ((179, 0), 180), ((0, 15), 173), ((173, 4), 178), ((173, 3), 177), ((173, 2), 176), ((173, 1), 175), ((173, 0), 174), ((0, 14), 51), ((52, 39), 170), ((170, 1), 172), ((170, 0), 171), ((52, 38), 167), ((167, 1), 169), ((167, 0), 168), ((52, 37), 164), ((164, 1), 166), ((164, 0), 165), ((52, 36), 161), ((161, 1), 163), ((161, 0), 162), ((52, 35), 158), ((158, 1), 160), ((158, 0), 159), ((52, 34), 155), ((155, 1), 157), ((155, 0), 156), ((52, 33), 152), ((152, 1), 154), ((152, 0), 153), ((52, 32), 149), ((149, 1), 151), ((149, 0), 150), ((52, 31), 146), ((146, 1), 148), ((146, 0), 147), ((52, 30), 143), ((143, 1), 145), ((143, 0), 144), ((52, 29), 140), ((140, 1), 142), ((140, 0), 141), ((52, 28), 137), ((137, 1), 139), ((137, 0), 138), ((52, 27), 134), ((134, 1), 136), ((134, 0), 135), ((52, 26), 131), ((131, 1), 133), ((131, 0), 132), ((52, 25), 128), ((128, 1), 130), ((128, 0), 129), ((52, 24), 125), ((125, 1), 127), ((125, 0), 126), ((52, 23), 122), ((122, 1), 124), ((122, 0), 123), ((52, 22), 119), ((119, 1), 121), ((119, 0), 120), ((52, 21), 116), ((116, 1), 118), ((116, 0), 117), ((52, 20), 113), ((113, 1), 115), ((113, 0), 114), ((52, 19), 110), ((110, 1), 112), ((110, 0), 111), ((52, 18), 107), ((107, 1), 109), ((107, 0), 108), ((52, 17), 104), ((104, 1), 106), ((104, 0), 105), ((52, 16), 101), ((101, 1), 103), ((101, 0), 102), ((52, 15), 98), ((98, 1), 100), ((98, 0), 99), ((52, 14), 95), ((95, 1), 97), ((95, 0), 96), ((52, 13), 92), ((92, 1), 94), ((92, 0), 93), ((52, 12), 89), ((89, 1), 91), ((89, 0), 90), ((52, 11), 86), ((86, 1), 88), ((86, 0), 87), ((52, 10), 83), ((83, 1), 85), ((83, 0), 84), ((52, 9), 80), ((80, 1), 82), ((80, 0), 81), ((52, 8), 77), ((77, 1), 79), ((77, 0), 78), ((52, 7), 74), ((74, 1), 76), ((74, 0), 75), ((52, 6), 71), ((71, 1), 73), ((71, 0), 72), ((52, 5), 68), ((68, 1), 70), ((68, 0), 69), ((52, 4), 65), ((65, 1), 67), ((65, 0), 66), ((52, 3), 62), ((62, 1), 64), ((62, 0), 63), ((52, 2), 59), ((59, 1), 61), ((59, 0), 60), ((52, 1), 56), ((56, 1), 58), ((56, 0), 57), ((52, 0), 53), ((53, 1), 55), ((53, 0), 54), ((51, 0), 52), ((0, 13), 43), ((43, 4), 50), ((50, 2), 44), ((50, 1), 30), ((50, 0), 2), ((43, 2), 36), ((43, 1), 42), ((43, 0), 2), ((43, 7), 49), ((43, 6), 48), ((43, 5), 47), ((43, 3), 44), ((44, 1), 46), ((44, 0), 45), ((0, 12), 42), ((42, 2), 36), ((42, 1), 30), ((42, 0), 2), ((0, 11), 39), ((39, 1), 41), ((39, 0), 40), ((0, 10), 36), ((36, 1), 38), ((36, 0), 37), ((0, 9), 30), ((30, 0), 2), ((30, 5), 35), ((30, 4), 34), ((30, 3), 33), ((30, 2), 32), ((30, 1), 31), ((0, 8), 28), ((28, 0), 29), ((0, 7), 15), ((15, 14), 27), ((15, 13), 26), ((15, 12), 25), ((15, 11), 24), ((15, 10), 23), ((15, 9), 22), ((15, 8), 21), ((15, 7), 20), ((15, 6), 19), ((15, 5), 18), ((15, 4), 17), ((15, 3), 16), ((0, 6), 2), ((2, 14), 14), ((2, 13), 13), ((2, 12), 12), ((2, 11), 11), ((2, 10), 10), ((2, 9), 9), ((2, 8), 8), ((2, 7), 7), ((2, 6), 6), ((2, 5), 5), ((2, 4), 4), ((2, 3), 3), ((0, 0), 1)] (upd2 (upd2 (upd2 (upd2 (fun _ _ => 0) 0 2 (-1)) 2 0 2) 15 0 2) 28 7 (-1)) (fun _ _ => 0) := hB.join (m := 0) (K := []) (kd := (15, 0)) hB2 rfl rfl
  clear hB2
  refine wp_astore_n (ls' := [(1, .ref 0), (0, .ref (gSB + 300))]) dL_law_7 rfl (Nat.le_of_ble_eq_true rfl) rfl ?_
  show Wp RL cL_law 7 (some .boolean) [] (hLw L xs) d (2689 + 1) (36229 + 54) 8 _ _ S2 _ _ QL
  refine wp_new dL_law_8 kc11 clL_100 it11 ii11 dv11 ?_
  rw [hB.zi, hB.zj, show S2.2.2 = 310 from hB.1]
  have hB := hB.new (16, 0) (by decide +kernel)
  generalize newS S2 (16, 0) = S3 at hB ⊢
  refine wp_dup dL_law_11 rfl ?_
  show Wp RL cL_law 7 (some .boolean) [] (hLw L xs) d (2663 + 26) (23570 + 12659) 12 _ _ S3 _ _ QL
  have hsub : Bz 310 S3 S3 [(16, 0)] [] (upd2 (upd2 (upd2 (upd2 (fun _ _ => 0) 0 2 (-1)) 2 0 2) 15 0 2) 28 7 (-1)) (fun _ _ => 0) := hB.sub 310 (kd := (16, 0)) (by decide +kernel) (by decide +kernel)
  refine wp_callB (As := []) dL_law_12 lbX11_init (Or.inl mlL_102) imX11_init rfl (ct_X11_init 1 (Nat.le_refl _) hsub) rfl rfl (Nat.le_trans (by decide) hd) (Nat.le_of_ble_eq_true rfl) (fun S4 hB2 => ?_)
  have hB : Bz 0 S S4 K337 R337 I9 (fun _ _ => 0) := hB.join (m := 310) hB2 (by decide +kernel) (by decide +kernel)
  clear hB2 hsub
  refine wp_astore_n (ls' := [(2, .ref 310), (1, .ref 0), (0, .ref (gSB + 300))]) dL_law_15 rfl (Nat.le_of_ble_eq_true rfl) rfl ?_
  refine wp_iconst (v := 1) dL_law_16 (by decide) ?_
  show Wp RL cL_law 7 (some .boolean) [] (hLw L xs) d (2662 + 1) (23569 + 1) 17 _ _ S4 I9 _ QL
  refine wp_newa (t := 3) (n9 := 1) dL_law_17 rfl ac_long (by decide) (fun _ => rfl) (by decide) (by decide) (by decide) ?_
  rw [hB.zi, hB.zj, show S4.2.2 = 337 from hB.1.trans (by decide +kernel)]
  have hB := hB.new (3, 1) (by decide +kernel)
  generalize newS S4 (3, 1) = S5 at hB ⊢
  have hS := Sh_start hB
  refine wp_astore_n (ls' := [(3, .ref 337), (2, .ref 310), (1, .ref 0), (0, .ref (gSB + 300))]) dL_law_19 rfl (Nat.le_of_ble_eq_true rfl) rfl ?_
  refine wp_iconst (v := 0) dL_law_20 (by decide) ?_
  refine wp_istore (ls' := [(4, .int 0), (3, .ref 337), (2, .ref 310), (1, .ref 0), (0, .ref (gSB + 300))]) dL_law_21 (Nat.le_of_ble_eq_true rfl) rfl ?_
  exact wp_pick (ks := [4, 3, 2, 1, 0]) rfl (wp_less (by decide) (by decide) (law_loop N hL hst d hd 512 0 S5 I9 _ rfl hS h0))
/-! THE CLAIM OUT OF ONE WALK OF THE LAW'S BODY. Your part is whole_start (and what it stands on); all else here is the same for every law, but numbers. -/
def R_law : String := "TunnelPlanLaw"
def lw_P (b : Addr) (xs : List Int32) (args : Array Value) (s : State) : Prop := args = #[.ref b] ∧ s.IntsAt b xs ∧ xs.length ≤ 3072 ∧ (Jvm.Cond.and given_1 narrow_1).before args s = true
def lw_Q (_ : Array Value) (s : State) (o : Outcome) (t : State) : Prop := o = .returned (some (.int 1)) ∧ Framed s o t [] 601024 7293034
def lw_Z (below : List Frame) (a : Array Value) (s : State) : State → Prop := fun t => ∃ o, t.status = .running ∧ Ended t below o ∧ lw_Q a s o t
/-- what holds at the law's entry: the machine, the code, the tables' words (any of lw_tbl by 'hts w (by decide +kernel)'), the script of L ints xs at the cell b, what the Statement gives of the start (any of its parts by flat_of_before) -/
def lw_At (p : Program) (s : State) (m : MethodId) (meth : Method) (c : Code) (b L : Nat) (xs : Nat → Int32) : Prop :=
  p.tables.exec = Jvm.exec ∧ c.code = code ∧ meth.sig.returnType = ret ∧ c.maxLocals = 7 ∧ s.vm.findClass R_law = some m.cls ∧ (∀ w ∈ lw_tbl, w.before #[Value.ref b] s = true) ∧ va_X b L xs s s.heap ∧ b < s.heap.size ∧ meth.locks = false ∧ (Jvm.Cond.and given_1 narrow_1).before #[Value.ref b] s = true

theorem lw_conv {p : Program} {l : Launch} {e : Env} {R : Room} {s : State} {m : MethodId} {args : Array Value} {below : List Frame} {meth : Method} {c : Code} {H : Heap} {D : va_G} {cy : Nat → ClassId} {al0 : Nat → Nat} {n0 n1 : Nat} {g : JFrame}
    (k : W p l e R s m args below meth c H [] 0 0 (vx_MQ below (gQ D cy (fun q => s.heap.size ≤ q) al0 n0 n1 QL) (gXc D cy (fun q => s.heap.size ≤ q) al0 n0 n1 QL) args s 3000 40000 (fun q => s.heap.size ≤ q)) g) : W p l e R s m args below meth c H [] 0 0 (lw_Z below args s) g := by
  intro T hT X
  obtain ⟨t, a1, o, b1, b2, b3⟩ := k T hT X
  refine ⟨t, a1, o, b1, b2, ?_⟩
  rcases b3 with ⟨⟨⟨v, S', I', J', al', ho, hq, -⟩, -⟩, L, hF, hL⟩ | ⟨q, -, E, ce, L, ⟨⟨S', I', J', al', hq, -⟩, -⟩, -⟩
  · cases hq
    refine ⟨ho, hF.1, hF.2.1, hF.2.2.weaken (fun x hx hlt => absurd hlt (Nat.not_lt.mpr (hL x hx))) (by decide) (by decide)⟩
  · cases hq
theorem gStr_ok : ∀ q ∈ gStr, Cond.stringRef q.1 q.2.1 q.2.2 ∈ tables_1 ∧ Cond.exactly (.string q.1 q.2.1) "java/lang/String" ∈ flatC (Jvm.Cond.and given_1 narrow_1) := by decide +kernel
theorem gStr_len : gStr.length < 100 := by decide +kernel
def tm3 (i : Nat) : Term := match i with | 0 => .string "TunnelPlan$Reader" 42 | 1 => .string "TunnelPlan$Reader" 59 | _ => .string "TunnelPlan$Reader" 68
theorem fl_ex : ∀ i, i < 3 → Cond.exactly (tm3 i) "java/lang/String" ∈ flatC (Jvm.Cond.and given_1 narrow_1) := by decide +kernel
theorem fl_co : ∀ i, i < 3 → Cond.eq (.field (tm3 i) "java/lang/String" "coder" "B") (.int 0) ∈ flatC (Jvm.Cond.and given_1 narrow_1) := by decide +kernel
theorem fl_ar : ∀ i, i < 3 → Cond.arrayOf (.field (tm3 i) "java/lang/String" "value" "[B") .byte ∈ flatC (Jvm.Cond.and given_1 narrow_1) := by decide +kernel
theorem fl_le : ∀ i, i < 3 → Cond.eq (.length (.field (tm3 i) "java/lang/String" "value" "[B")) (.int (Int32.ofNat (([5, 4, 6] : List Nat).getD i 0))) ∈ flatC (Jvm.Cond.and given_1 narrow_1) := by decide +kernel
theorem fl_el : ∀ i, i < 3 → ∀ j, j < ([5, 4, 6] : List Nat).getD i 0 → Cond.eq (.elem (.field (tm3 i) "java/lang/String" "value" "[B") (.int (Int32.ofNat j))) (.int ((([[110, 111, 100, 101, 115], [108, 105, 110, 107], [116, 117, 110, 110, 101, 108]] : List (List Int32)).getD i []).getD j 0)) ∈ flatC (Jvm.Cond.and given_1 narrow_1) := by decide +kernel
theorem fl_ne : ∀ i, i < 3 → ∀ j, j < 3 → i ≠ j → Cond.not (Cond.eq (tm3 i) (tm3 j)) ∈ flatC (Jvm.Cond.and given_1 narrow_1) ∨ Cond.not (Cond.eq (tm3 j) (tm3 i)) ∈ flatC (Jvm.Cond.and given_1 narrow_1) := by decide +kernel
theorem fl_na : Cond.not (.castable xnA xnN) ∈ flatC (Jvm.Cond.and given_1 narrow_1) := by decide +kernel
theorem fl_us : Cond.isRef (.static Bundle.tN "UNASSIGNED_STACK" Bundle.steD) ∈ flatC (Jvm.Cond.and given_1 narrow_1) := by decide +kernel
theorem fl_ss : Cond.isRef (.static Bundle.tN "SUPPRESSED_SENTINEL" Bundle.listD) ∈ flatC (Jvm.Cond.and given_1 narrow_1) := by decide +kernel
theorem fl_cs : Cond.eq (.static "java/lang/String" "COMPACT_STRINGS" "Z") (.int 1) ∈ flatC (Jvm.Cond.and given_1 narrow_1) := by decide +kernel
theorem fl_sf : Cond.isRef (.static "jdk/internal/util/Preconditions" "SIOOBE_FORMATTER" "Ljava/util/function/BiFunction;") ∈ flatC (Jvm.Cond.and given_1 narrow_1) := by decide +kernel
theorem tb_1 : Cond.laysStatic Bundle.tN "UNASSIGNED_STACK" Bundle.steD ∈ tables_1 := by decide +kernel
theorem tb_2 : Cond.laysStatic Bundle.tN "SUPPRESSED_SENTINEL" Bundle.listD ∈ tables_1 := by decide +kernel
theorem tb_3 : Cond.laysStatic "java/lang/String" "COMPACT_STRINGS" "Z" ∈ tables_1 := by decide +kernel
theorem tb_4 : Cond.laysStatic "jdk/internal/util/Preconditions" "SIOOBE_FORMATTER" "Ljava/util/function/BiFunction;" ∈ tables_1 := by decide +kernel
theorem tb_5 : Cond.initialized Bundle.tN ∈ tables_1 := by decide +kernel
theorem tb_6 : Cond.initialized "java/lang/String" ∈ tables_1 := by decide +kernel
theorem tb_7 : Cond.initialized "jdk/internal/util/Preconditions" ∈ tables_1 := by decide +kernel
theorem tb_8 : Cond.arrayOver (.object RX8) ∈ tables_1 := by decide +kernel
theorem NW_tb : ∀ w ∈ NW, w ∈ lw_tbl ∧ w.onTables = true := by
  intro w hw
  obtain ⟨h1, h2⟩ := List.mem_filter.mp hw
  refine ⟨List.mem_append_right _ h1, ?_⟩
  cases w <;> simp [isNest] at h2 <;> rfl
theorem kc_all : ∀ c : Nat, c < 12 → ∃ q : vw_C, vwCl[c]? = some q ∧ (∀ w ∈ u_ws q.1 q.2.1 q.2.2, w ∈ LW) ∧ Cond.instantiable q.1 q.2.2 ∈ LW := by
  intro c hc
  rcases (show c = 0 ∨ c = 1 ∨ c = 2 ∨ c = 3 ∨ c = 4 ∨ c = 5 ∨ c = 6 ∨ c = 7 ∨ c = 8 ∨ c = 9 ∨ c = 10 ∨ c = 11 by omega) with rfl | rfl | rfl | rfl | rfl | rfl | rfl | rfl | rfl | rfl | rfl | rfl
  · exact ⟨_, vc0, kc0.2.2.1, it0⟩
  · exact ⟨_, vc1, kc1.2.2.1, it1⟩
  · exact ⟨_, vc2, kc2.2.2.1, it2⟩
  · exact ⟨_, vc3, kc3.2.2.1, it3⟩
  · exact ⟨_, vc4, kc4.2.2.1, it4⟩
  · exact ⟨_, vc5, kc5.2.2.1, it5⟩
  · exact ⟨_, vc6, kc6.2.2.1, it6⟩
  · exact ⟨_, vc7, kc7.2.2.1, it7⟩
  · exact ⟨_, vc8, kc8.2.2.1, it8⟩
  · exact ⟨_, vc9, kc9.2.2.1, it9⟩
  · exact ⟨_, vc10, kc10.2.2.1, it10⟩
  · exact ⟨_, vc11, kc11.2.2.1, it11⟩
set_option maxHeartbeats 8000000 in
set_option maxRecDepth 100000 in
theorem start_K {s : State} {args : Array Value} (hw : ∀ w ∈ LW, w.before args s = true) (ho : (Cond.arrayOver (.object RX8)).before args s = true) : ∃ (D : va_G) (cy : Nat → ClassId), va_K D vwCl (gT cy) s := by
  have h1 : ∀ c : Nat, ∃ z : ClassId × (Nat → Nat), ∀ q, vwCl[c]? = some q → u_Kn s q.1 q.2.1 q.2.2 z.1 z.2 := by
    intro c
    by_cases hc : c < 12
    · obtain ⟨q, hq, hin, hi⟩ := kc_all c hc
      obtain ⟨cC, iS, hk⟩ := u_known hw hin (hw _ hi)
      exact ⟨(cC, iS), fun q' hq' => by cases Option.some.inj (hq.symm.trans hq'); exact hk⟩
    · exact ⟨(0, fun _ => 0), fun q hq => absurd (List.getElem?_eq_some_iff.mp hq).1 (by rw [show vwCl.length = 12 from rfl]; exact hc)⟩
  obtain ⟨D0, hD0⟩ := Classical.axiomOfChoice h1
  obtain ⟨c0, k0, p0, a0, b0, d0⟩ := Cond.arrayClass_spec (hw _ ac_int)
  obtain ⟨c1, k1, p1, a1, b1, d1⟩ := Cond.arrayClass_spec (hw _ ac_byte)
  obtain ⟨c2, k2, p2, a2, b2, d2⟩ := Cond.arrayClass_spec (hw _ ac_boolean)
  obtain ⟨c3, k3, p3, a3, b3, d3⟩ := Cond.arrayClass_spec (hw _ ac_long)
  obtain ⟨p4, c4, k4, e4, f4, a4, b4, d4⟩ := Cond.arrayOver_spec ho
  refine ⟨(fun c => (D0 c).1, fun c => (D0 c).2), fun t => match t with | 0 => c0 | 1 => c1 | 2 => c2 | 3 => c3 | _ => c4, fun c q hq => hD0 c q hq, fun k q hk => ?_⟩
  match k, hk with
  | 0, hk => cases hk; exact ⟨fun n z => ⟨fun k h => (by cases h), k0, b0, p0, d0⟩, a0⟩
  | 1, hk => cases hk; exact ⟨fun n z => ⟨fun k h => (by cases h), k1, b1, p1, d1⟩, a1⟩
  | 2, hk => cases hk; exact ⟨fun n z => ⟨fun k h => (by cases h), k2, b2, p2, d2⟩, a2⟩
  | 3, hk => cases hk; exact ⟨fun n z => ⟨fun k h => (by cases h), k3, b3, p3, d3⟩, a3⟩
  | 4, hk => cases hk; exact ⟨fun n z => ⟨fun k h => (by cases h), k4, a4, p4, b4⟩, k4, p4, a4, b4, e4, d4⟩
  | k + 5, hk => simp [gT] at hk
theorem start_X {s : State} {args : Array Value} {b : Nat} (ht : ∀ w ∈ tables_1, w.before args s = true) (hf : ∀ w ∈ flatC (Jvm.Cond.and given_1 narrow_1), w.before args s = true) : ∃ al : Nat → Nat, al (gSB + 300) = b ∧ gX al (fun q => s.heap.size ≤ q) s s.heap := by
  have hA : ∀ a : Nat, a < s.heap.size → ¬ (fun q : Nat => s.heap.size ≤ q) a := fun a h => Nat.not_le.mpr h
  obtain ⟨adK, adV, hS, hev⟩ := vk_Sof (args := args) (s := s) (N := 3) (tm := tm3) (len := [5, 4, 6]) (byt := [[110, 111, 100, 101, 115], [108, 105, 110, 107], [116, 117, 110, 110, 101, 108]]) (A := fun q => s.heap.size ≤ q) (by decide) (fun i hi => hf _ (fl_ex i hi)) (fun i hi => hf _ (fl_co i hi)) (fun i hi => hf _ (fl_ar i hi)) (fun i hi => hf _ (fl_le i hi)) (fun i hi j hj => hf _ (fl_el i hi j hj)) (fun i j hi hj hij => (fl_ne i hi j hj hij).imp (hf _) (hf _)) hA
  have h1 : ∀ i : Nat, ∃ a : Nat, ∀ q, gStr[i]? = some q → vk_R q.1 q.2.1 q.2.2 a s := by
    intro i
    cases hq : gStr[i]? with
    | none => exact ⟨0, fun q h => by cases h⟩
    | some q =>
      obtain ⟨g1, g2⟩ := gStr_ok q (List.mem_of_getElem? hq)
      obtain ⟨a, c, cell, k, e1, -⟩ := Cond.exactly_spec (hf _ g2)
      exact ⟨a, fun q' h => by cases h; exact vk_R.of (ht _ g1) e1⟩
  obtain ⟨ad, had⟩ := Classical.axiomOfChoice h1
  have h3 : ∀ i, i < 3 → adK i = ad i := by
    intro i hi
    have e1 := hev i hi
    rcases (show i = 0 ∨ i = 1 ∨ i = 2 by omega) with rfl | rfl | rfl
    · exact Value.ref.inj (Option.some.inj (e1.symm.trans (had 0 _ rfl).2))
    · exact Value.ref.inj (Option.some.inj (e1.symm.trans (had 1 _ rfl).2))
    · exact Value.ref.inj (Option.some.inj (e1.symm.trans (had 2 _ rfl).2))
  obtain ⟨v, hv1, hv2⟩ := Cond.isRef_spec (hf _ fl_sf)
  have hZ := va_Zof (A := fun q => s.heap.size ≤ q) (ht _ tb_4) (ht _ tb_7) hv1 hA
  have hZ2 : ∃ r : Nat, va_Z "jdk/internal/util/Preconditions" "SIOOBE_FORMATTER" "Ljava/util/function/BiFunction;" .null (fun q => s.heap.size ≤ q) s s.heap ∨ va_Z "jdk/internal/util/Preconditions" "SIOOBE_FORMATTER" "Ljava/util/function/BiFunction;" (.ref r) (fun q => s.heap.size ≤ q) s s.heap := by
    cases v with
    | null => exact ⟨0, Or.inl hZ⟩
    | ref r => exact ⟨r, Or.inr hZ⟩
    | _ => cases hv2
  obtain ⟨r, hr⟩ := hZ2
  refine ⟨fun k => if k = gSB + 300 then b else if k = gSB + 200 then r else if gSB + 100 ≤ k then adV (k - gSB - 100) else ad (k - gSB), if_pos rfl, fun i q hq => ?_, ?_, vx_Zqof (ht _ tb_1) (ht _ tb_5) (hf _ fl_us) hA, vx_Zqof (ht _ tb_2) (ht _ tb_5) (hf _ fl_ss) hA, va_AO.of (ht _ tb_8), va_Zof (ht _ tb_3) (ht _ tb_6) (va_eqt (hf _ fl_cs)) hA, ?_⟩
  · have hi : i < 100 := Nat.lt_trans (List.getElem?_eq_some_iff.mp hq).1 gStr_len
    show vk_R _ _ _ (if gSB + i = gSB + 300 then b else if gSB + i = gSB + 200 then r else if gSB + 100 ≤ gSB + i then adV (gSB + i - gSB - 100) else ad (gSB + i - gSB)) s
    rw [if_neg (by omega), if_neg (by omega), if_neg (by omega), show gSB + i - gSB = i by omega]
    exact had i q hq
  · have e1 : ∀ i, i < 3 → (if gSB + i = gSB + 300 then b else if gSB + i = gSB + 200 then r else if gSB + 100 ≤ gSB + i then adV (gSB + i - gSB - 100) else ad (gSB + i - gSB)) = adK i := by
      intro i hi
      rw [if_neg (by omega), if_neg (by omega), if_neg (by omega), show gSB + i - gSB = i by omega, h3 i hi]
    have e2 : ∀ i, i < 3 → (if gSB + 100 + i = gSB + 300 then b else if gSB + 100 + i = gSB + 200 then r else if gSB + 100 ≤ gSB + 100 + i then adV (gSB + 100 + i - gSB - 100) else ad (gSB + 100 + i - gSB)) = adV i := by
      intro i hi
      rw [if_neg (by omega), if_neg (by omega), if_pos (by omega), show gSB + 100 + i - gSB - 100 = i by omega]
    refine ⟨fun i hi => ?_, fun i j hi hj h => ?_⟩
    · show va_O _ (if gSB + i = gSB + 300 then b else if gSB + i = gSB + 200 then r else if gSB + 100 ≤ gSB + i then adV (gSB + i - gSB - 100) else ad (gSB + i - gSB)) _ _ _ ∧ va_OF _ _ _ _ (if gSB + i = gSB + 300 then b else if gSB + i = gSB + 200 then r else if gSB + 100 ≤ gSB + i then adV (gSB + i - gSB - 100) else ad (gSB + i - gSB)) _ _ _ ∧ va_OF _ _ _ (.ref (if gSB + 100 + i = gSB + 300 then b else if gSB + 100 + i = gSB + 200 then r else if gSB + 100 ≤ gSB + 100 + i then adV (gSB + 100 + i - gSB - 100) else ad (gSB + 100 + i - gSB))) (if gSB + i = gSB + 300 then b else if gSB + i = gSB + 200 then r else if gSB + 100 ≤ gSB + i then adV (gSB + i - gSB - 100) else ad (gSB + i - gSB)) _ _ _ ∧ va_T _ (if gSB + 100 + i = gSB + 300 then b else if gSB + 100 + i = gSB + 200 then r else if gSB + 100 ≤ gSB + 100 + i then adV (gSB + 100 + i - gSB - 100) else ad (gSB + 100 + i - gSB)) _ _ _ _ _
      rw [e1 i hi, e2 i hi]
      exact hS.1 i hi
    · have h9 : (if gSB + i = gSB + 300 then b else if gSB + i = gSB + 200 then r else if gSB + 100 ≤ gSB + i then adV (gSB + i - gSB - 100) else ad (gSB + i - gSB)) = (if gSB + j = gSB + 300 then b else if gSB + j = gSB + 200 then r else if gSB + 100 ≤ gSB + j then adV (gSB + j - gSB - 100) else ad (gSB + j - gSB)) := h
      rw [e1 i hi, e1 j hj] at h9
      exact hS.2 i j hi hj h9
  · have e3 : (if gSB + 200 = gSB + 300 then b else if gSB + 200 = gSB + 200 then r else if gSB + 100 ≤ gSB + 200 then adV (gSB + 200 - gSB - 100) else ad (gSB + 200 - gSB)) = r := by
      rw [if_neg (by omega), if_pos rfl]
    show _ ∨ va_Z _ _ _ (.ref (if gSB + 200 = gSB + 300 then b else if gSB + 200 = gSB + 200 then r else if gSB + 100 ≤ gSB + 200 then adV (gSB + 200 - gSB - 100) else ad (gSB + 200 - gSB))) _ _ _
    rw [e3]
    exact hr
set_option maxHeartbeats 8000000 in
set_option maxRecDepth 100000 in
theorem whole_open (N : Nat) {Inv : Nat → gI → Prop} (hst : Steps9 N Inv) (h0 : Inv 0 I9) {p : Program} {e : Env} {s : State} {m : MethodId} {below : List Frame} {meth : Method} {c : Code} (l : Launch) (htr : l.stackTraces = false) {b L : Nat} {xs : Nat → Int32} (hL : L ≤ 3072) (C0 : lw_At p s m meth c b L xs) (htab : c.exceptionTable.toList = []) : W p l e room_1 s m #[Value.ref b] below meth c s.heap [] 0 0 (lw_Z below #[Value.ref b] s) (entryFrame m ([Value.ref b] : List Value).toArray 7) := by
  obtain ⟨hx, hb, hr, hml, hown, hts, hX, hbl, hlocks, hgv⟩ := id C0
  have hf := flat_of_before _ hgv
  have ht : ∀ w ∈ tables_1, w.before #[Value.ref b] s = true := fun w h => hts w (List.mem_append_right _ h)
  have hw : ∀ w ∈ LW, w.before #[Value.ref b] s = true := fun w h => hts w (List.mem_filter.mp h).1
  obtain ⟨D, cy, hK⟩ := start_K hw (ht _ tb_8)
  obtain ⟨al, hal, hgX⟩ := start_X (b := b) ht hf
  have hP : va_P D vwCl [] s.heap := fun k q h => by simp at h
  have hD : va_D (fun q : Nat => s.heap.size ≤ q) [] := ⟨fun i j p q h => by simp at h, fun k q h => by simp at h⟩
  have hl := lv_entry ([.ref b]) (n := 7) (Nat.le_of_ble_eq_true rfl)
  rw [lg_entry_eq]
  generalize (lg_sl ([.ref b]) ++ List.replicate (7 - (lg_sl ([.ref b])).length) Slot.unset).toArray = lsr at hl ⊢
  have hl : lv_has lsr 7 [(0, .ref b)] := hl
  obtain ⟨S, hSe⟩ : ∃ S : gS, S = (fun _ => (0, 0), fun _ _ => none, 0) := ⟨_, rfl⟩
  have hS2 : S.2.2 = 0 := by rw [hSe]
  have hB : Bz 0 S S [] [] (fun _ _ => 0) (fun _ _ => 0) := ⟨hS2, fun i kd h => by simp at h, fun q h => by simp at h, fun a h => absurd h (Nat.not_lt_zero _), fun _ _ _ => rfl, fun _ _ _ => rfl⟩
  have hW : gW cy al S (fun _ _ => 0) (fun _ _ => 0) = [] := by unfold gW; rw [hS2]; rfl
  refine lw_conv (D := D) (cy := cy) (al0 := al) (n0 := 0) (n1 := 0 + 3000) ?_
  exact law_start N (xs := xs) hL hst h0 1000 (by decide) hB p l e room_1 s m #[Value.ref b] below meth c s.heap [] 0 0 (fun q => s.heap.size ≤ q) al cy D 3000 40000 al 0
    ⟨⟨hx, hb, hml, hr, hlocks, htab⟩, ⟨hown, hw, fun w h => va_tabs (NW_tb w h).2 rfl (hts w (NW_tb w h).1), htr⟩, ⟨by decide, by decide, by decide, by decide⟩, hK, fun _ h => h⟩
    ⟨by rw [hal]; exact hX, by rw [hal]; exact hbl, by rw [hal]; exact Nat.not_le.mpr hbl, va_Nc.of (hf _ fl_na)⟩
    ⟨⟨by decide, by decide, by rw [hS2]; decide, by decide⟩, ⟨by rw [hW]; exact hP, by rw [hW]; exact hD⟩, va_S.rf, hgX, gAg.rf, by rw [hS2]; exact Nat.le_refl _, fun k j r hk => absurd hk (by rw [hS2]; exact Nat.not_lt_zero _)⟩
    ⟨⟨Or.inr (Nat.le_add_right _ _), trivial⟩, trivial⟩ lsr (by show lv_has lsr 7 [(0, .ref (al (gSB + 300)))]; rw [hal]; exact hl)
set_option maxHeartbeats 4000000 in
theorem lw_walk (N : Nat) {Inv : Nat → gI → Prop} (hst : Steps9 N Inv) (h0 : Inv 0 I9) (l : Launch) (htr : l.stackTraces = false) (b : Addr) (xs : List Int32) : MetFree l x (headSpec (Jvm.Cond.code x code maxLocals ret :: tables_1) room_1) (lw_P b xs) (fun _ _ _ _ _ => True) lw_Q := by
  refine MetFree.of_bodyS (code := code) (maxLocals := maxLocals) (ret := ret) (by decide) ?_ ?_
  · intro args s m h hn
    obtain ⟨meth, c, h1, h2, h3, h4, h5, h6, -, -⟩ := Cond.code_spec hn (atoms_spec (ws := Jvm.Cond.code x code maxLocals ret :: tables_1) h _ List.mem_cons_self)
    exact ⟨meth, c, h1, h2, h3, h4, h5, h6⟩
  · intro p e s m args below meth c s₁ B hml0 hP _
    obtain ⟨rfl, hx, hbd, hgv⟩ := hP
    obtain ⟨scr, harrAt, hlist, hof, hsmall⟩ := hx
    obtain ⟨hcb, hkn, -, -⟩ := State.arrayAt?_spec harrAt
    have hown : s.vm.findClass R_law = some m.cls := findClass_of_methodNamed B.named
    have hts0 : ∀ c ∈ (Jvm.Cond.code x code maxLocals ret :: tables_1), c.before #[Value.ref b] s = true := atoms_spec (ws := Jvm.Cond.code x code maxLocals ret :: tables_1) B.pre
    have hts : ∀ w ∈ lw_tbl, w.before #[Value.ref b] s = true := k2_hts_sels lw_privs (fun w hw => hts0 w (List.mem_cons_of_mem _ hw)) lw_privs_ok
    have hml : c.maxLocals = 7 := B.maxLocals_eq (hts0 _ List.mem_cons_self)
    have X₀ : Stand p l e room_1 s m #[Value.ref b] below meth c s₁ [] 0 0 := Stand.of_body B
    have hh0 : s₁.heap = s.heap := by rw [B.state]; rfl
    have hsz : scr.slots.size = xs.length := by rw [← Array.length_toList, hlist, List.length_map]
    have hval : ∀ j : Nat, j < xs.length → scr.slots[j]? = some (.int (xs.getD j 0)) := fun j hj => by
      rw [← Array.getElem?_toList, hlist]
      simp [hj]
    have hbl : b < s.heap.size := (Array.getElem?_eq_some_iff.mp hcb).1
    have hX : va_X b xs.length (fun j => xs.getD j 0) s s.heap := ⟨scr, hcb, hof, hkn, hsz, hval⟩
    have K : W p l e room_1 s m #[Value.ref b] below meth c s₁.heap [] 0 0 (lw_Z below #[Value.ref b] s) (entryFrame m ([Value.ref b] : List Value).toArray 7) := by
      rw [hh0]
      refine whole_open N hst h0 l htr hbd ⟨B.exec, B.bytes, B.returns, hml, hown, hts, hX, hbl, B.notSynchronized, hgv⟩ ?_
      obtain ⟨meth9, c9, h1, h2, -, -, -, -, h7, -⟩ := Cond.code_spec B.named (hts0 _ List.mem_cons_self)
      cases Option.some.inj (h1.symm.trans B.method)
      cases Option.some.inj (h2.symm.trans X₀.code)
      exact Array.toList_eq_nil_iff.mpr (Array.isEmpty_iff.mp h7)
    obtain ⟨t, a1, o, b1, b2, b3⟩ := K s₁ rfl X₀
    exact ⟨t, o, a1, b1, b2, b3⟩
theorem lw_pre_spec {args : Array Value} {s : State} (h : (Jvm.Cond.and given_1 narrow_1).before args s = true) (hr : rest_1_c.before args s = true) : ∃ (b : Addr) (xs : List Int32), lw_P b xs args s := by
  have hs := flat_of_before _ h
  have hq := flat_of_before _ hr
  have hc : (Cond.count 1).before args s = true := hs _ (by decide +kernel)
  have harr : (Cond.arrayOf (.arg 0) .int).before args s = true := hs _ (by decide +kernel)
  have hle : (Cond.le (.length (.arg 0)) (.int 3072)).before args s = true := hs _ (by decide +kernel)
  have hlen : (Cond.isInt (.length (.arg 0))).before args s = true := hq _ (by decide +kernel)
  have hall : (Cond.all (.arg 0) (.isInt (.elem (.arg 0) (.index 0)))).before args s = true := hq _ (by decide +kernel)
  obtain ⟨b, xs, hb, hx⟩ := State.ints_of_pre rfl harr hlen hall
  have hsm : xs.length < 2 ^ 31 := hx.choose_spec.2.2.2
  have hev : (Term.length (.arg 0)).eval args s none [] s = some (.int xs.length.toInt32) := hx.length_eval hb
  have hv := Cond.le_ints hev (show (Term.int 3072).eval args s none [] s = some (.int 3072) from rfl)
  have hd : xs.length.toInt32 ≤ 3072 := by
    simpa [Cond.before, Cond.holds, hv] using hle
  have hN : xs.length ≤ 3072 := (Int32.ofNat_le_ofNat hsm (by decide)).mp (show Int32.ofNat xs.length ≤ Int32.ofNat 3072 from hd)
  exact ⟨b, xs, Cond.one_arg hc (show args[0]? = some (.ref b) from hb), hx, hN, h⟩
theorem lw_comes (N : Nat) {Inv : Nat → gI → Prop} (hst : Steps9 N Inv) (h0 : Inv 0 I9) (l : Launch) (htr : l.stackTraces = false) : Comes l x (Jvm.Cond.code x code maxLocals ret :: tables_1) room_1 (fun tb e args s => Calls_1 tb e args s ∧ rest_1 tb e args s ∧ Pre_1 tb e args s)
    (fun _ _ args s o t => lw_Q args s o t) := by
  intro p e ha hc hk s m args below hf hfit hheap happ hpre
  obtain ⟨b, xs, hP⟩ := lw_pre_spec hpre.2.2 hpre.2.1
  obtain ⟨k, o, h1, h2, h3, hQ⟩ := lw_walk N hst h0 l htr b xs p e ha hc hk s m args below hf ((Spec.applies_iff_loose hf).mp happ).1 hP trivial
  exact ⟨k, o, h1, h2, h3, hQ⟩
theorem lw_frame {s t : State} {o : Outcome} {args : Array Value} (h : Framed s o t [] 601024 7293034) :
    Framed s o t (fieldLocs frame_1_writes args s ++ arrayLocs frame_1_arrays args s ++ staticLocs frame_1_statics s) 601024 7293034 := h
theorem lw_limb (N : Nat) {Inv : Nat → gI → Prop} (hst : Steps9 N Inv) (h0 : Inv 0 I9) (L : Cond) (hL : ∀ (args : Array Value) (s t : State), L.after args s (.returned (some (.int 1))) t = true) :
    ArmFor flags0 classFile x code maxLocals ret World_1 tables_1 room_1 Calls_1 rest_1 Pre_1
      (fun tb e a s o t => postC L tb e a s o t ∧ Framed s o t (fieldLocs frame_1_writes a s ++ arrayLocs frame_1_arrays a s ++ staticLocs frame_1_statics s) 601024 7293034) := by
  intro l hfl _ _ p e ha hc hk s m args below hf hfit hheap happ hpre
  have htr : l.stackTraces = false := by unfold Launch.stackTraces; rw [hfl]; decide
  obtain ⟨k, o, h1, h2, h3, rfl, hF⟩ := lw_comes N hst h0 l htr p e ha hc hk s m args below hf hfit hheap happ hpre
  exact ⟨k, _, h1, h2, h3, hL args s _, lw_frame hF⟩
theorem vc_open (N : Nat) {Inv : Nat → gI → Prop} (hst : Steps9 N Inv) (h0 : Inv 0 I9) : Claimed_1_1 ∧ Claimed_1_2 := ⟨lw_limb N hst h0 limb_1_1 (fun args s t => by simp [limb_1_1, Cond.after, Cond.holds, Cond.value]), lw_limb N hst h0 limb_1_2 (fun args s t => Cond.after_iff.mpr (by
  first | (rw [show limb_1_2 = Cond.eq .result (.int 1) from rfl, Cond.eq_ints (x := 1) (y := 1) rfl rfl]; simp; done) | (simp [limb_1_2, Cond.value, Term.eval]; done)))⟩

