/-! a bandwidth changes: the heap -/
section Bd
variable {ν : Nt} {σ : St} {I : gI} {N u : Nat}
theorem CS_bd {t a : Nat} (hs : CS ν u σ I) : CS ν u (bdS σ t a) (upd2 I (u + 2) t (nI a)) := by
  refine ⟨by rw [u2_c (by omega)]; exact hs.1, fun i hi => ⟨by rw [u2_c (by omega)]; exact (hs.2 i hi).1, ?_⟩⟩
  show _ = nI (if i = t then a else σ.bd i)
  by_cases e : i = t
  · subst e; rw [u2_at, if_pos rfl]
  · rw [u2_ne (by omega), if_neg e]; exact (hs.2 i hi).2
theorem MS_bd (hn : WfN ν) {t a : Nat} (ht : t < ν.tn) (hM : MS ν 317 0 σ I) : MS ν 317 0 (bdS σ t a) (upd2 I 317 (1 + t) (nI a)) := by
  have htn := hn.2.2.2.1
  refine ⟨by rw [u2_ne (by omega)]; exact hM.1, fun i hi => ⟨?_, by rw [u2_ne (by omega)]; exact (hM.2 i hi).2.1, fun k hk => by rw [u2_ne (by omega)]; exact (hM.2 i hi).2.2 k hk⟩⟩
  show _ = nI (if i = t then a else σ.bd i)
  by_cases e : i = t
  · subst e; rw [Nat.zero_add, u2_at, if_pos rfl]
  · rw [u2_ne (by omega), if_neg e]; exact (hM.2 i hi).1
theorem m_drop2 {k3 : Int32} (hn : WfN ν) (hI : NetM ν I) (hs : MS ν 317 0 σ I) (hN : 100 ≤ N) (s : Nat) : ∃ I', mX11_resize_118 k3 (nI s) N 0 I = some I' ∧ FS 0 I I' ∧ I' 310 = I 310 ∧ MS ν 317 0 (dpW σ s) I' := by
  obtain ⟨I', e, r⟩ := m_drop (N := N) (b := 0) (k3 := k3) hn hI hs (by omega) hN s
  refine ⟨I', ?_, r⟩
  have z : ∀ v : Int32, (nI 0 + 10) + v = 10 + v := fun v => by rw [nI_0', Int32.zero_add]
  have key : ∀ (n : Nat) (v : Int32) (K : gI), mX11_resize_118 k3 (nI s) n v K = mX11_settles_128 (nI 0) k3 (nI s) n v K := by
    intro n
    induction n with
    | zero => intro v K; rfl
    | succ n ih =>
      intro v K
      rw [mX11_resize_118, mX11_settles_128, z, ih, ih]
  rw [key]
  exact e
end Bd
