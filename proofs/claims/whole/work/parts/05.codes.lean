/-! ===== the reference's table, code by code ===== -/
def fd_OK (c : Nat → Bool) (m : Nat) : Prop := ∀ k, k < 10 → m.testBit k = true → c k = true
def fd_TM (p : Nat → Nat) (c : Nat → Bool) (m : Nat) (T : Nat → Int32) : Prop := ∀ s, s < 256 → (T s = -1 ∧ ∀ j, j < m → fd_OK c j → ¬ fd_cx p j 10 / 256 = s) ∨ (∃ j, j < m ∧ fd_OK c j ∧ fd_cx p j 10 / 256 = s ∧ T s = nI (fd_cx p j 10 % 256))
theorem fd_TM0 {p : Nat → Nat} {c : Nat → Bool} {T : Nat → Int32} (h : ∀ s, s < 256 → T s = -1) : fd_TM p c 0 T := fun s hs => Or.inl ⟨h s hs, fun j hj => absurd hj (by omega)⟩
theorem fd_TMs {p : Nat → Nat} {c : Nat → Bool} {m : Nat} {T : Nat → Int32} (h : fd_TM p c m T) (hn : ¬ fd_OK c m) : fd_TM p c (m + 1) T := by
  intro s hs
  rcases h s hs with ⟨e, n⟩ | ⟨j, hj, ho, ex, e⟩
  · refine Or.inl ⟨e, fun j hj ho => ?_⟩
    by_cases z : j = m
    · exact absurd (z ▸ ho) hn
    · exact n j (by omega) ho
  · exact Or.inr ⟨j, by omega, ho, ex, e⟩
theorem fd_TMu {p : Nat → Nat} {c : Nat → Bool} {m : Nat} {T : Nat → Int32} (h : fd_TM p c m T) (hm : fd_OK c m) : fd_TM p c (m + 1) (upd T (fd_cx p m 10 / 256) (nI (fd_cx p m 10 % 256))) := by
  intro s hs
  by_cases z : s = fd_cx p m 10 / 256
  · exact Or.inr ⟨m, by omega, hm, z.symm, by rw [z, pk_us]⟩
  · rw [pk_un z]
    rcases h s hs with ⟨e, n⟩ | ⟨j, hj, ho, ex, e⟩
    · refine Or.inl ⟨e, fun j hj ho => ?_⟩
      by_cases y : j = m
      · rw [y]; exact fun w => z w.symm
      · exact n j (by omega) ho
    · exact Or.inr ⟨j, by omega, ho, ex, e⟩
theorem fd_TMe {p : Nat → Nat} {c : Nat → Bool} {T : Nat → Int32} (h : fd_TM p c 1024 T) : fd_Tab (fd_sp p c 10) T := by
  intro s hs
  rcases h s hs with ⟨e, n⟩ | ⟨j, _, ho, ex, e⟩
  · refine Or.inl ⟨e, fun x hx => ?_⟩
    obtain ⟨m, hm, ho, em⟩ := fd_cxe 10 x hx
    rw [em]
    exact n m hm ho
  · exact Or.inr ⟨_, fd_cxs 10 ho, ex, e⟩
theorem fd_mask {m : Nat} (hm : m < 1024) (w : Int32) : (nI m &&& (w ^^^ (-1))) = 0 ↔ ∀ k, k < 10 → m.testBit k = true → bt w k = true := by
  constructor
  · intro h k hk ht
    have t : bt (nI m &&& (w ^^^ (-1))) k = bt 0 k := by rw [h]
    rw [b_and, b_xor, b_0, fd_bt (by omega), b_m1 k (by omega), ht] at t
    revert t
    cases bt w k <;> decide
  · intro h
    apply b_ext
    intro i hi
    rw [b_and, b_xor, b_0, fd_bt hi, b_m1 i hi]
    by_cases e : i < 10
    · cases ht : m.testBit i
      · rfl
      · rw [h i e ht]; rfl
    · have h2 := fd_pw 10 i (by omega)
      rw [Nat.testBit_lt_two_pow (show m < 2 ^ i from Nat.lt_of_lt_of_le hm h2), Bool.false_and]
def fd_ok (a : Bool) (c : Nat → Bool) (m : Nat) : Nat → Bool
  | 0 => a
  | k + 1 => fd_ok a c m k && (!m.testBit k || c k)
theorem fd_oki (a : Bool) (c : Nat → Bool) (m : Nat) : ∀ n, fd_ok a c m n = true ↔ (a = true ∧ ∀ k, k < n → m.testBit k = true → c k = true) := by
  intro n
  induction n with
  | zero => exact ⟨fun h => ⟨h, fun k hk => absurd hk (by omega)⟩, fun h => h.1⟩
  | succ n ih =>
    have e0 : fd_ok a c m (n + 1) = (fd_ok a c m n && (!m.testBit n || c n)) := rfl
    rw [e0, Bool.and_eq_true, ih]
    constructor
    · rintro ⟨⟨h1, h2⟩, h3⟩
      refine ⟨h1, fun k hk ht => ?_⟩
      by_cases e : k = n
      · rw [e] at ht ⊢
        rw [ht] at h3
        exact h3
      · exact h2 k (by omega) ht
    · rintro ⟨h1, h2⟩
      refine ⟨⟨h1, fun k hk => h2 k (by omega)⟩, ?_⟩
      cases ht : m.testBit n
      · rfl
      · rw [h2 n (by omega) ht]; rfl
theorem fd_okc {c : Nat → Bool} {w : Int32} {m : Nat} (hm : m < 1024) : fd_ok (decide ((nI m &&& (w ^^^ (-1))) = 0)) c m 10 = true ↔ fd_OK (fun k => c k && bt w k) m := by
  rw [fd_oki, decide_eq_true_iff, fd_mask hm w]
  constructor
  · rintro ⟨h1, h2⟩ k hk ht
    show (c k && bt w k) = true
    rw [h1 k hk ht, h2 k hk ht]; rfl
  · intro h
    refine ⟨fun k hk ht => ?_, fun k hk ht => ?_⟩
    · have t : (c k && bt w k) = true := h k hk ht
      rw [Bool.and_eq_true] at t
      exact t.2
    · have t : (c k && bt w k) = true := h k hk ht
      rw [Bool.and_eq_true] at t
      exact t.1
/-! ===== the best set ===== -/
def fd_best (f : Nat → Nat) : Nat → Nat
  | 0 => 1
  | n + 1 => if f (fd_best f n) < f (n + 2) then n + 2 else fd_best f n
theorem fd_bestle (f : Nat → Nat) : ∀ n, 1 ≤ fd_best f n ∧ fd_best f n ≤ n + 1 := by
  intro n
  induction n with
  | zero => exact ⟨Nat.le_refl 1, Nat.le_refl 1⟩
  | succ n ih =>
    have e0 : fd_best f (n + 1) = if f (fd_best f n) < f (n + 2) then n + 2 else fd_best f n := rfl
    by_cases h : f (fd_best f n) < f (n + 2)
    · rw [e0, if_pos h]; omega
    · rw [e0, if_neg h]; omega
