section Steps9s
variable {N : Nat}
theorem NetM.c9 {ν : Nt} {I I' : gI} (h : NetM ν I) (k : ∀ c, c < 173 ∨ 178 < c → I' c = I c) : NetM ν I' := ⟨by rw [k 310 (by omega)]; exact h.1, by rw [k 310 (by omega)]; exact h.2.1, by rw [k 310 (by omega)]; exact h.2.2.1, by rw [k 313 (by omega)]; exact h.2.2.2.1, by rw [k 315 (by omega)]; exact h.2.2.2.2⟩
theorem up5 (K : gI) (m : Nat) (a b d p f : Int32) : ∀ c j, ¬ (c = 333 ∧ 5 * m ≤ j ∧ j < 5 * m + 5) → (upd2 (upd2 (upd2 (upd2 (upd2 K 333 (5 * m) a) 333 (5 * m + 1) b) 333 (5 * m + 2) d) 333 (5 * m + 3) p) 333 (5 * m + 4) f) c j = K c j := by
  intro c j h
  rw [u2_ne (by omega), u2_ne (by omega), u2_ne (by omega), u2_ne (by omega), u2_ne (by omega)]
set_option maxHeartbeats 2000000 in
theorem s_see : St_see N Inv := by
  intro c I J a1 a2 a3 a4 a5 hc hInv ha5
  obtain ⟨⟨ν, σ, ks, vs, hP⟩, mv⟩ := id hInv
  obtain ⟨hn, g, c1, m1, c2, m2, ac, sg, im, tp, ct⟩ := id hP
  obtain ⟨g1, g2, g3, g4, g5⟩ := id sg
  have hnn := hn.2.1
  have s0 : ∀ {K : gI}, Sm K (upd2 K 310 0 0) := Sm.rf.u0
  rcases nod_ck hn a1 with ⟨n1, hn1, rfl, eM1⟩ | ⟨b1, eM1⟩
  · rcases nod_ck hn a2 with ⟨n2, hn2, rfl, eM2⟩ | ⟨b2, eM2⟩
    · obtain ⟨xa, hxa, hxa1⟩ : ∃ xa : Int32, (∀ I, mX11_within a3 1 99 I = some xa) ∧ ((xa = 1 ∧ ∃ d, 1 ≤ d ∧ d ≤ 99 ∧ a3 = nI d) ∨ xa = 0) := by
        rcases wi_ck (lo := 1) (hi := 99) (by omega) (by omega) a3 with ⟨d, h1, h2, rfl, e⟩ | ⟨-, e⟩
        · exact ⟨1, e, Or.inl ⟨rfl, d, h1, h2, rfl⟩⟩
        · exact ⟨0, e, Or.inr rfl⟩
      obtain ⟨xp, hxp, hxp1⟩ : ∃ xp : Int32, (∀ I, mX11_within a4 0 7 I = some xp) ∧ ((xp = 1 ∧ ∃ p, p ≤ 7 ∧ a4 = nI p) ∨ xp = 0) := by
        rcases wi_ck (lo := 0) (hi := 7) (by omega) (by omega) a4 with ⟨p, -, h2, rfl, e⟩ | ⟨-, e⟩
        · exact ⟨1, e, Or.inl ⟨rfl, p, h2, rfl⟩⟩
        · exact ⟨0, e, Or.inr rfl⟩
      have ba : mX10_isAmount a3 I = some xa := hxa I
      have bp : mX10_isPriority a4 I = some xp := hxp I
      have en : nI n1 = nI n2 ↔ n1 = n2 := nI_eq (by omega) (by omega)
      have e8 : (8 : Int32) = nI 8 := rfl
      have baseC : mX10_see (nI n1) (nI n2) a3 a4 a5 I = if n1 = n2 ∨ xa = 0 ∨ xp = 0 ∨ vs.length = 8 then some (.inl (-1), upd2 I 0 5 ((I 0 5) + 1)) else Option.bind (mX7_add (nI n1) (nI n2) a3 a4 a5 I) (fun I13 => some (.inl (I13 173 5), I13)) := by
        unfold mX10_see
        rw [c_nod1 hn c1 hn1 hn2, lb_l, ba, bp, ob_some, ob_some, g3, e8]
        by_cases h1 : n1 = n2
        · rw [if_pos (en.mpr h1), ob_some, if_pos rfl, if_pos (Or.inl h1)]
        · rw [if_neg (fun e => h1 (en.mp e))]
          rcases hxa1 with ⟨rfl, -⟩ | rfl
          · rw [if_neg (show ¬ (1 : Int32) = 0 by decide)]
            rcases hxp1 with ⟨rfl, -⟩ | rfl
            · rw [if_neg (show ¬ (1 : Int32) = 0 by decide), ob_some, if_neg (show ¬ (1 : Int32) = 0 by decide)]
              by_cases h4 : vs.length = 8
              · rw [if_neg (by rw [h4]; exact nI_nlt (Nat.le_refl _) (by omega)), if_pos (Or.inr (Or.inr (Or.inr h4)))]
              · rw [if_pos (nI_lt (by omega) (by omega)), if_neg]
                rintro (h | h | h | h)
                · exact h1 h
                · exact absurd h (by decide)
                · exact absurd h (by decide)
                · exact h4 h
            · rw [if_pos (show (0 : Int32) = 0 from rfl), ob_some, if_pos (show (0 : Int32) = 0 from rfl), if_pos (Or.inr (Or.inr (Or.inl rfl)))]
          · rw [if_pos (show (0 : Int32) = 0 from rfl), ob_some, if_pos (show (0 : Int32) = 0 from rfl), if_pos (Or.inr (Or.inl rfl))]
      by_cases hbad : n1 = n2 ∨ xa = 0 ∨ xp = 0 ∨ vs.length = 8
      · have hN1 : NetM ν (upd2 I 0 5 (I 0 5 + 1)) := m1.fr (X := [0]) (Fr.rf.u2 (by simp)) (by simp) (by simp) (by simp)
        obtain ⟨K, hK⟩ : ∃ K, K = upd2 (upd2 I 0 5 (I 0 5 + 1)) 310 0 0 := ⟨_, rfl⟩
        have hNK : NetM ν K := by rw [hK]; exact hN1.sm s0
        have h0K : K 310 0 = 0 := by rw [hK, u2_at]
        have h45 : K 310 45 = nI vs.length := by rw [hK, u2_ne (by omega), u2_c (by decide)]; exact g4
        refine ⟨.inl (-1), upd2 I 0 5 (I 0 5 + 1), -1, upd2 K 312 2 (K 312 2 + 1), by rw [baseC, if_pos hbad], (fun E h => by cases h), ?_, by rw [u2_c (by decide), h0K]; rfl, (fun v h => by cases h; rfl), Inv_ref5 hP mv (by rw [hK]; exact s0)⟩
        unfold mX11_see
        rw [← hK, eM1 K hNK h0K, ob_some]
        dsimp only
        rw [if_neg (show ¬ (1 : Int32) = 0 by decide), eM2 K hNK h0K, ob_some]
        dsimp only
        rw [if_neg (show ¬ (1 : Int32) = 0 by decide), m_refuses2, ob_some]
        by_cases h4 : vs.length = 8
        · rw [if_pos (show K 310 45 = 8 by rw [h45, h4]; rfl)]
        · rw [if_neg (show ¬ K 310 45 = 8 by rw [h45, e8, nI_eq (by omega) (by omega)]; exact h4)]
          by_cases h1 : n1 = n2
          · rw [if_pos (en.mpr h1)]
          · rw [if_neg (fun e => h1 (en.mp e)), hxa, ob_some]
            rcases hxa1 with ⟨rfl, -⟩ | rfl
            · rw [if_neg (show ¬ (1 : Int32) = 0 by decide), hxp, ob_some]
              rcases hxp1 with ⟨rfl, -⟩ | rfl
              · exfalso
                rcases hbad with h | h | h | h
                · exact h1 h
                · exact absurd h (by decide)
                · exact absurd h (by decide)
                · exact h4 h
              · rw [if_pos (show (0 : Int32) = 0 from rfl)]
            · rw [if_pos (show (0 : Int32) = 0 from rfl)]
      · have h1 : n1 ≠ n2 := fun h => hbad (Or.inl h)
        have h4 : vs.length ≠ 8 := fun h => hbad (Or.inr (Or.inr (Or.inr h)))
        rcases hxa1 with ⟨rfl, d, d1, d2, rfl⟩ | h
        rotate_left
        · exact absurd (Or.inr (Or.inl h)) hbad
        rcases hxp1 with ⟨rfl, p, p1, rfl⟩ | h
        rotate_left
        · exact absurd (Or.inr (Or.inr (Or.inl h))) hbad
        obtain ⟨f, hf, rfl⟩ : ∃ f, f ≤ 1 ∧ a5 = nI f := by
          rcases ha5 with rfl | rfl
          · exact ⟨0, by omega, rfl⟩
          · exact ⟨1, by omega, rfl⟩
        have hnar : vp_nar .boolean (nI f) = nI f := by
          have : f = 0 ∨ f = 1 := by omega
          rcases this with rfl | rfl <;> rfl
        obtain ⟨m, hm⟩ : ∃ m, m = vs.length := ⟨_, rfl⟩
        rw [← hm] at g3 g4 h4 g1
        obtain ⟨Ic, hIc⟩ : ∃ Ic, Ic = upd2 (upd2 (upd2 (upd2 (upd2 (upd2 I 174 m (nI n1)) 175 m (nI n2)) 176 m (nI d)) 177 m (nI p)) 178 m (nI f)) 173 5 (nI (m + 1)) := ⟨_, rfl⟩
        have eadd : mX7_add (nI n1) (nI n2) (nI d) (nI p) (nI f) I = some Ic := by
          unfold mX7_add
          simp only [nm_n, u2_c (show 173 ≠ 174 by decide), u2_c (show 173 ≠ 175 by decide), u2_c (show 173 ≠ 176 by decide), u2_c (show 173 ≠ 177 by decide), u2_c (show 173 ≠ 178 by decide)]
          rw [g3, e8, if_neg (nI_ge (by omega) (by omega)), ck_n (by omega) (by decide), ck_n (by omega) (by decide), ck_n (by omega) (by decide), ck_n (by omega) (by decide), ck_n (by omega) (by decide), nI_clamp (by omega), hnar, nI_1, hIc]
        have kc : ∀ c j, ¬ (c = 173 ∧ j = 5) → ¬ (174 ≤ c ∧ c ≤ 178 ∧ j = m) → Ic c j = I c j := by
          intro c j q1 q2
          rw [hIc, u2_ne (by omega), u2_ne (by omega), u2_ne (by omega), u2_ne (by omega), u2_ne (by omega), u2_ne (by omega)]
        have kcc : ∀ c, c < 173 ∨ 178 < c → Ic c = I c := fun c hc => by funext j; exact kc c j (by omega) (by omega)
        have hNc : NetM ν Ic := m1.c9 kcc
        obtain ⟨K, hK⟩ : ∃ K, K = upd2 Ic 310 0 0 := ⟨_, rfl⟩
        have hNK : NetM ν K := by rw [hK]; exact hNc.sm s0
        have h0K : K 310 0 = 0 := by rw [hK, u2_at]
        have h45 : K 310 45 = nI m := by rw [hK, u2_ne (by omega), kcc 310 (by omega)]; exact g4
        obtain ⟨R, hR⟩ : ∃ R, R = upd2 (upd2 (upd2 (upd2 (upd2 K 333 (5 * m) (nI n1)) 333 (5 * m + 1) (nI n2)) 333 (5 * m + 2) (nI d)) 333 (5 * m + 3) (nI p)) 333 (5 * m + 4) (nI f) := ⟨_, rfl⟩
        have kR : ∀ c j, ¬ (c = 333 ∧ 5 * m ≤ j ∧ j < 5 * m + 5) → R c j = K c j := by rw [hR]; exact up5 K m _ _ _ _ _
        refine ⟨.inl (nI (m + 1)), Ic, nI (m + 1), upd2 R 310 45 (nI (m + 1)), ?_, (fun E h => by cases h), ?_, ?_, (fun v h => by cases h; rfl), Inv_see (v := mkV n1 n2 d p f) hP mv (by omega) ⟨hn1, hn2, h1, d1, d2, p1, hf⟩ ?_ ?_ (by rw [u2_at, hm]) ?_ ?_⟩
        · rw [baseC, if_neg hbad, eadd, ob_some, show Ic 173 5 = nI (m + 1) by rw [hIc, u2_at]]
        · unfold mX11_see
          rw [← hK, eM1 K hNK h0K, ob_some]
          dsimp only
          rw [if_neg (show ¬ (1 : Int32) = 0 by decide), eM2 K hNK h0K, ob_some]
          dsimp only
          rw [if_neg (show ¬ (1 : Int32) = 0 by decide)]
          simp only [nm_n, u2_c (show 310 ≠ 333 by decide)]
          rw [if_neg (show ¬ K 310 45 = 8 by rw [h45, e8, nI_eq (by omega) (by omega)]; exact h4), if_neg (fun e => h1 (en.mp e)), hxa, ob_some, if_neg (show ¬ (1 : Int32) = 0 by decide), hxp, ob_some, if_neg (show ¬ (1 : Int32) = 0 by decide)]
          simp only [h45, show (1 : Int32) = nI 1 from rfl, show (2 : Int32) = nI 2 from rfl, show (3 : Int32) = nI 3 from rfl, show (4 : Int32) = nI 4 from rfl, n5', nI_add]
          rw [ck_n (by omega) (by decide), ck_n (by omega) (by decide), ck_n (by omega) (by decide), ck_n (by omega) (by decide), ck_n (by omega) (by decide)]
          simp only [nI_clamp (show 5 * m < 2147483648 by omega), nI_clamp (show 5 * m + 1 < 2147483648 by omega), nI_clamp (show 5 * m + 2 < 2147483648 by omega), nI_clamp (show 5 * m + 3 < 2147483648 by omega), nI_clamp (show 5 * m + 4 < 2147483648 by omega)]
          have : f = 0 ∨ f = 1 := by omega
          rcases this with rfl | rfl
          · rw [if_pos (show nI 0 = 0 from rfl), hR, u2_at]; rfl
          · rw [if_neg (show ¬ nI 1 = 0 by decide), ck_n (by omega) (by decide), hR, u2_at]
        · rw [u2_ne (by omega), kR 310 0 (by omega), h0K]; rfl
        · intro c j k q1 q2 q3 q4
          rw [← hm] at q2 q4
          rw [u2_ne q3, kR c j q4, hK]
          by_cases e : c = 310 ∧ j = 0
          · exfalso
            obtain ⟨rfl, rfl⟩ := e
            unfold Kp at k
            omega
          · rw [u2_ne e, kc c j q1 q2]
        · rw [u2_c (by decide), kR 173 5 (by omega), hK, u2_c (by decide), hIc, u2_at, hm]
        · intro k hk
          rw [← hm]
          have hk' : k = 0 ∨ k = 1 ∨ k = 2 ∨ k = 3 ∨ k = 4 := by omega
          rw [u2_c (by omega), kR _ _ (by omega), hK, u2_c (by omega), hIc, u2_c (by omega)]
          rcases hk' with rfl | rfl | rfl | rfl | rfl
          · rw [u2_c (by decide), u2_c (by decide), u2_c (by decide), u2_c (by decide), u2_at]; rfl
          · rw [u2_c (by decide), u2_c (by decide), u2_c (by decide), u2_at]; rfl
          · rw [u2_c (by decide), u2_c (by decide), u2_at]; rfl
          · rw [u2_c (by decide), u2_at]; rfl
          · rw [u2_at]; rfl
        · intro k hk
          rw [← hm]
          have hk' : k = 0 ∨ k = 1 ∨ k = 2 ∨ k = 3 ∨ k = 4 := by omega
          rw [u2_c (by omega), hR]
          rcases hk' with rfl | rfl | rfl | rfl | rfl
          · rw [u2_ne (by omega), u2_ne (by omega), u2_ne (by omega), u2_ne (by omega), Nat.add_zero, u2_at]; rfl
          · rw [u2_ne (by omega), u2_ne (by omega), u2_ne (by omega), u2_at]; rfl
          · rw [u2_ne (by omega), u2_ne (by omega), u2_at]; rfl
          · rw [u2_ne (by omega), u2_at]; rfl
          · rw [u2_at]; rfl
    · refine ⟨.inr xnN, I, 0, upd2 (upd2 I 310 0 0) 310 0 1, ?_, (fun E h => by cases h; rfl), ?_, u2_at, (fun v h => by cases h), hInv.sm s0.u0⟩
      · unfold mX10_see
        rw [c_nod2 c1 (Or.inr ⟨nI_pos (by omega), nI_ge hn1 (by omega), b2⟩), lb_r]
      · unfold mX11_see
        rw [eM1 _ (m1.sm s0) u2_at, ob_some]
        dsimp only
        rw [if_neg (by decide), eM2 _ (m1.sm s0) u2_at, ob_some]
        dsimp only
        rw [if_pos rfl]
  · refine ⟨.inr xnN, I, 0, upd2 (upd2 I 310 0 0) 310 0 1, ?_, (fun E h => by cases h; rfl), ?_, u2_at, (fun v h => by cases h), hInv.sm s0.u0⟩
    · unfold mX10_see
      rw [c_nod2 c1 (Or.inl b1), lb_r]
    · unfold mX11_see
      rw [eM1 _ (m1.sm s0) u2_at, ob_some]
      dsimp only
      rw [if_pos rfl]
end Steps9s
