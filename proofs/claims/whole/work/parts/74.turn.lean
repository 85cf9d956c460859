/-! a bandwidth changes: the first turn of settling -/
def bdS (σ : St) (t a : Nat) : St := (σ.w, fun i => if i = t then a else σ.bd i, σ.up)
section Turn
variable {ν : Nt} {σ : St} {I : gI} {N u b : Nat}
theorem pl_bd {t a l p : Nat} : pl ν (bdS σ t a) t l p = pl ν σ t l p := by
  unfold pl
  congr 1
  apply sm_congr
  intro k hk
  by_cases h : k = t
  · subst h; simp
  · show (if k ≠ t ∧ ν.T k 4 ≤ p ∧ l ∈ σ.w k then (((if k = t then a else σ.bd k) : Nat) : Int) else 0) = _
    rw [if_neg h]
theorem bst_bd {t a p : Nat} {q : List Nat} : bst ν (bdS σ t a) t a p q ↔ bst ν σ t a p q := by
  have e1 : fit ν (bdS σ t a) t a p = fit ν σ t a p := by
    funext l
    unfold fit
    rw [pl_bd]
    rfl
  have e2 : (fun l => pl ν (bdS σ t a) t l 7) = fun l => pl ν σ t l 7 := by funext l; exact pl_bd
  unfold bst
  rw [e1, e2]
theorem Gd_step2 (hn : WfN ν) {t s1 : Nat} {q : List Nat} (hA : ∀ t, t < ν.tn → 1 ≤ σ.bd t ∧ σ.bd t ≤ 99 ∧ (σ.w t = [] ∨ IsP ν (opn ν σ t) (ν.T t 0) (ν.T t 1) (ν.T t 6) (σ.w t))) (hB : ∀ l, l < ν.ln → 0 ≤ pl ν σ t l 7) (ht : t < ν.tn) (hq : isB ν (fit ν σ t (σ.bd t) (ν.T t 3)) (fun l => pl ν σ t l 7) (ν.T t 0) (ν.T t 1) (ν.T t 6) q) (hp : psh ν (stW σ t q) t s1) : Gd ν (dpW (stW σ t q) s1) := by
  have htn := hn.2.2.2.1
  have hT := hn.2.2.2.2.2 t ht
  have g0 : Gd ν (stW σ t []) := by
    refine ⟨fun i hi => ⟨(hA i hi).1, (hA i hi).2.1, ?_⟩, fun l hl => ?_⟩
    · have ho : ∀ i, opn ν (stW σ t []) i = opn ν σ i := fun _ => rfl
      rw [ho, stW_w]
      by_cases h : i = t
      · rw [if_pos h]; exact Or.inl rfl
      · rw [if_neg h]; exact (hA i hi).2.2
    · have h1 := pl_back (ν := ν) (σ := stW σ t []) (l := l) (p := 7) ht htn (by omega)
      rw [pl_st] at h1
      have h3 : bk (stW σ t []) t l = 0 := by
        unfold bk
        rw [if_neg]
        rw [stW_w, if_pos rfl]
        simp
      have := hB l hl
      omega
  have e : stW (stW σ t []) t q = stW σ t q := by
    unfold stW
    congr 1
    funext i
    show (if i = t then q else (if i = t then [] else σ.w i)) = if i = t then q else σ.w i
    by_cases h : i = t
    · rw [if_pos h, if_pos h]
    · rw [if_neg h, if_neg h, if_neg h]
  have ef : fit ν (stW σ t []) t (σ.bd t) (ν.T t 3) = fit ν σ t (σ.bd t) (ν.T t 3) := by
    funext l
    unfold fit
    rw [pl_st]
    rfl
  have ep : (fun l => pl ν (stW σ t []) t l 7) = fun l => pl ν σ t l 7 := by funext l; exact pl_st
  have := Gd_step (σ := stW σ t []) (t := t) (s1 := s1) (q := q) hn g0 ht (by rw [stW_bd, ef, ep]; exact hq) (by rw [e]; exact hp)
  rw [e] at this
  exact this
theorem one_tb {t : Nat} : ∀ {n : Nat}, t < n → (2 ^ t).testBit t = true := fun _ => Nat.testBit_two_pow_self
theorem stg_one_t {t : Nat} (ht : t < ν.tn) : stg ν (2 ^ t) t := ⟨ht, Nat.testBit_two_pow_self, fun o _ h => by
  rw [Nat.testBit_two_pow] at h
  simp at h
  subst h
  exact Or.inr ⟨rfl, Nat.le_refl _⟩⟩
theorem clr_one {t : Nat} : clr (2 ^ t) t = 0 := Nat.xor_self _
/-- the first turn, where the own way may be overbooked -/
theorem c_turn (hn : WfN ν) (hN : 1000 ≤ N) (hu : 35 < u) {t : Nat} {q : List Nat} (ht : t < ν.tn) (hA : ∀ t, t < ν.tn → 1 ≤ σ.bd t ∧ σ.bd t ≤ 99 ∧ (σ.w t = [] ∨ IsP ν (opn ν σ t) (ν.T t 0) (ν.T t 1) (ν.T t 6) (σ.w t))) (hB : ∀ l, l < ν.ln → 0 ≤ pl ν σ t l 7) (hww : WfW ν σ) (hI : NetC ν I) (hs : CS ν u σ I) (hq : bst ν σ t (σ.bd t) (ν.T t 3) q) (hq0 : q ≠ []) : ∃ c σ' I' s1 r, mX2_settle N u (nI (2 ^ t)) I = some (r, I') ∧ psh ν (stW σ t q) t s1 ∧ Gd ν (dpW (stW σ t q) s1) ∧ Stl ν 8 s1 (dpW (stW σ t q) s1) c σ' ∧ CS ν u σ' I' ∧ Gd ν σ' ∧ Fr [30, 31, 32, 33, u + 1] I I' := by
  have htn := hn.2.2.2.1
  have hT := hn.2.2.2.2.2 t ht
  have hpow : (2 : Nat) ^ ν.tn ≤ 2 ^ 9 := Nat.pow_le_pow_right (by decide) htn
  have hpow2 : (2 : Nat) ^ t < 2 ^ ν.tn := Nat.pow_lt_pow_right (by decide) ht
  have h29 : (2 : Nat) ^ 9 = 512 := rfl
  have hpos : 0 < (2 : Nat) ^ t := Nat.pow_pos (by decide)
  obtain ⟨t', et, ht'⟩ := c_stg (N := N) (u := u) hn hI (by omega) hpow2 (by omega)
  obtain rfl := stg_one (stg_one_t ht) ht'
  obtain ⟨I7, q', eq, fq, hq'⟩ := c_bw (N := N) (t := t) (bd := σ.bd t) (p := ν.T t 3) hn hI hs hu hww (by omega) ht (hA t ht).2.1 hT.2.2.2.2.2.1
  obtain rfl := bst_one hn ht hq hq'
  have hB' := bst_isB hq hq0
  have hs7 := hs.fr fq (by simp; omega) (by simp; omega) (by simp; omega)
  have hw1 : WfW ν (stW σ t q) := WfW_st (bd := 0) (p := 0) hn hww ht hB'
  have fu1 : Fr [30, 31, 32, 33, u + 1] I (upd2 I7 (u + 1) t (wb q)) := (fq.mono (by simp)).u2 (by simp)
  have hI8 := hI.fr fu1 (by simp; omega)
  have hs8 : CS ν u (stW σ t q) (upd2 I7 (u + 1) t (wb q)) := CS_st hs7
  obtain ⟨s1, e1, hp⟩ := c_push (N := N) hn hI8 hs8 hw1 hN ht (st_fit hB')
  obtain ⟨I12, e2, f2, hs12⟩ := c_drop (N := N) hn hI8 hs8 (by omega) hu s1
  have f12 : Fr [30, 31, 32, 33, u + 1] I I12 := fu1.tr (f2.mono (by simp))
  have hI12 := hI.fr f12 (by simp; omega)
  have hlt := hp.1
  have g2 := Gd_step2 hn hA hB ht hB' hp
  have hW : Wt ν σ (2 ^ t) 0 9 := ⟨hpow2, fun _ _ => Nat.zero_le _, by have := upn_le (ν := ν) 0; omega⟩
  have hW2 : Wt ν (dpW (stW σ t q) s1) s1 (kt ν t + 1) 8 := by
    have := Wt_step (σ1 := stW σ t q) (σ2 := dpW (stW σ t q) s1) (s1 := s1) hn hW (stg_one_t ht) hp.1 hp.2.1
    rw [clr_one, Nat.zero_or] at this
    exact this
  obtain ⟨n, rfl⟩ : ∃ n, N = n + 1 := ⟨N - 1, by omega⟩
  obtain ⟨c, σ', I', e, h1, h2, h3, h4, -, -⟩ := c_settle7 (N := n + 1) hn hN hu 8 (kt ν t + 1) s1 (dpW (stW σ t q) s1) I12 n (0 + nI (pcn s1)) g2 hI12 hs12 hW2 (by omega) (by omega)
  refine ⟨c, σ', I', s1, 0 + nI (pcn s1) + nI c, ?_, hp, g2, h1, h2, h3, f12.tr h4⟩
  unfold mX2_settle
  rw [mX2_settle_7, if_neg (by decide), if_neg (nI_ne0 hpos (by omega)), et, ob_some, ck_n (by omega) (by decide), nI_clamp (by omega), (hs.2 t ht).2, show I 11 t = nI (ν.T t 3) from hI.2.2.2.2 t ht 3 (by decide), eq, ob_some]
  dsimp only
  rw [if_neg (fun h => hq0 ((wb_0 hn (bst_ln hq)).mp h)), e1, ob_some, e2, ob_some, nm_n, c_bits (by omega), ob_some, clr_nI (by omega) (Nat.testBit_two_pow_self), clr_one, nx_or, Nat.zero_or, show (0 : Int32) + 1 = nI (9 - 8) from rfl, e, ob_some]
end Turn
