/-! ===== exclusive or on naturals ===== -/
theorem fd_xc (a b : Nat) : (a ^^^ b) ^^^ b = a := by rw [Nat.xor_assoc, Nat.xor_self, Nat.xor_zero]
theorem fd_xr (a b c : Nat) : (a ^^^ b) ^^^ c = (a ^^^ c) ^^^ b := by rw [Nat.xor_assoc, Nat.xor_comm b c, ← Nat.xor_assoc]
theorem fd_xl (a b : Nat) : a ^^^ (a ^^^ b) = b := by rw [← Nat.xor_assoc, Nat.xor_self, Nat.zero_xor]
theorem fd_x0 {a b : Nat} (h : a ^^^ b = 0) : a = b := by
  have t := fd_xc a b
  rw [h, Nat.zero_xor] at t
  exact t.symm
theorem fd_d (a b : Nat) : (a ^^^ b) / 256 = a / 256 ^^^ b / 256 := Nat.xor_div_two_pow (n := 8)
theorem fd_m (a b : Nat) : (a ^^^ b) % 256 = a % 256 ^^^ b % 256 := Nat.xor_mod_two_pow (n := 8)
theorem fd_x2 {x y n : Nat} (hx : 2 ^ n ≤ x) (hx' : x < 2 ^ (n + 1)) (hy : 2 ^ n ≤ y) (hy' : y < 2 ^ (n + 1)) : x ^^^ y < 2 ^ n := by
  apply Nat.lt_pow_two_of_testBit
  intro i hi
  rw [Nat.testBit_xor]
  rcases Nat.eq_or_lt_of_le hi with e | e
  · rw [← e, Nat.testBit_of_two_pow_le_and_two_pow_add_one_gt hx hx', Nat.testBit_of_two_pow_le_and_two_pow_add_one_gt hy hy']
    rfl
  · have h2 : (2 : Nat) ^ (n + 1) ≤ 2 ^ i := Nat.pow_le_pow_right (by decide) e
    rw [Nat.testBit_lt_two_pow (Nat.lt_of_lt_of_le hx' h2), Nat.testBit_lt_two_pow (Nat.lt_of_lt_of_le hy' h2)]
    rfl
theorem fd_tbn {x n : Nat} (h : x < 2 ^ (n + 1)) (hn : ¬ x.testBit n = true) : x < 2 ^ n :=
  Nat.lt_of_not_le (fun h' => hn (Nat.testBit_of_two_pow_le_and_two_pow_add_one_gt h' h))
/-! ===== the span of the first n drops that c chooses ===== -/
def fd_sp (p : Nat → Nat) (c : Nat → Bool) : Nat → Nat → Prop
  | 0 => fun x => x = 0
  | k + 1 => fun x => fd_sp p c k x ∨ (c k = true ∧ fd_sp p c k (x ^^^ p k))
def fd_cl (L : Nat → Prop) : Prop := L 0 ∧ ∀ x y, L x → L y → L (x ^^^ y)
def fd_con (L : Nat → Prop) : Prop := ∀ x, L x → x < 256 → x = 0
theorem fd_sp0 (p : Nat → Nat) (c : Nat → Bool) : ∀ n, fd_sp p c n 0 := by
  intro n
  induction n with
  | zero => exact rfl
  | succ n ih => exact Or.inl ih
theorem fd_spx (p : Nat → Nat) (c : Nat → Bool) : ∀ n x y, fd_sp p c n x → fd_sp p c n y → fd_sp p c n (x ^^^ y) := by
  intro n
  induction n with
  | zero =>
    intro x y hx hy
    have hx' : x = 0 := hx
    have hy' : y = 0 := hy
    rw [hx', hy']
    exact Nat.xor_self 0
  | succ n ih =>
    intro x y hx hy
    have hx : fd_sp p c n x ∨ (c n = true ∧ fd_sp p c n (x ^^^ p n)) := hx
    have hy : fd_sp p c n y ∨ (c n = true ∧ fd_sp p c n (y ^^^ p n)) := hy
    show fd_sp p c n (x ^^^ y) ∨ (c n = true ∧ fd_sp p c n ((x ^^^ y) ^^^ p n))
    rcases hx with hx | ⟨hc, hx⟩
    · rcases hy with hy | ⟨hd, hy⟩
      · exact Or.inl (ih _ _ hx hy)
      · refine Or.inr ⟨hd, ?_⟩
        rw [Nat.xor_assoc]
        exact ih _ _ hx hy
    · rcases hy with hy | ⟨hd, hy⟩
      · refine Or.inr ⟨hc, ?_⟩
        rw [fd_xr]
        exact ih _ _ hx hy
      · refine Or.inl ?_
        have t := ih _ _ hx hy
        rw [Nat.xor_comm y (p n), ← Nat.xor_assoc, fd_xc] at t
        exact t
theorem fd_spcl (p : Nat → Nat) (c : Nat → Bool) (n : Nat) : fd_cl (fd_sp p c n) := ⟨fd_sp0 p c n, fd_spx p c n⟩
theorem fd_splt {p : Nat → Nat} {c : Nat → Bool} (hp : ∀ k, p k < 65536) : ∀ n x, fd_sp p c n x → x < 65536 := by
  intro n
  induction n with
  | zero =>
    intro x hx
    have hx : x = 0 := hx
    omega
  | succ n ih =>
    intro x hx
    have hx : fd_sp p c n x ∨ (c n = true ∧ fd_sp p c n (x ^^^ p n)) := hx
    rcases hx with hx | ⟨_, hx⟩
    · exact ih x hx
    · have t := Nat.xor_lt_two_pow (n := 16) (ih _ hx) (hp n)
      rw [fd_xc] at t
      exact t
theorem fd_spm {p : Nat → Nat} {c c' : Nat → Bool} : ∀ n, (∀ k, k < n → c k = true → c' k = true) → ∀ x, fd_sp p c n x → fd_sp p c' n x := by
  intro n
  induction n with
  | zero => exact fun _ x hx => hx
  | succ n ih =>
    intro hc x hx
    have hx : fd_sp p c n x ∨ (c n = true ∧ fd_sp p c n (x ^^^ p n)) := hx
    have hi := ih (fun k hk => hc k (by omega))
    rcases hx with hx | ⟨h1, hx⟩
    · exact Or.inl (hi x hx)
    · exact Or.inr ⟨hc n (by omega) h1, hi _ hx⟩
theorem fd_spg {p p' : Nat → Nat} {c c' : Nat → Bool} : ∀ n, (∀ k, k < n → p k = p' k) → (∀ k, k < n → c k = c' k) → ∀ x, fd_sp p c n x ↔ fd_sp p' c' n x := by
  intro n
  induction n with
  | zero => exact fun _ _ x => Iff.rfl
  | succ n ih =>
    intro hp hc x
    have hi := ih (fun k hk => hp k (by omega)) (fun k hk => hc k (by omega))
    show (fd_sp p c n x ∨ (c n = true ∧ fd_sp p c n (x ^^^ p n))) ↔ (fd_sp p' c' n x ∨ (c' n = true ∧ fd_sp p' c' n (x ^^^ p' n)))
    rw [hi x, hp n (by omega), hc n (by omega), hi (x ^^^ p' n)]
theorem fd_spu (p : Nat → Nat) (c : Nat → Bool) (k q : Nat) (hc : c k = false) : ∀ n, k < n → ∀ x, fd_sp (fun j => if j = k then q else p j) (fun j => if j = k then true else c j) n x ↔ (fd_sp p c n x ∨ fd_sp p c n (x ^^^ q)) := by
  intro n
  induction n with
  | zero => intro h; omega
  | succ n ih =>
    intro hk x
    show (fd_sp (fun j => if j = k then q else p j) (fun j => if j = k then true else c j) n x ∨ ((if n = k then true else c n) = true ∧ fd_sp (fun j => if j = k then q else p j) (fun j => if j = k then true else c j) n (x ^^^ (if n = k then q else p n)))) ↔ ((fd_sp p c n x ∨ (c n = true ∧ fd_sp p c n (x ^^^ p n))) ∨ (fd_sp p c n (x ^^^ q) ∨ (c n = true ∧ fd_sp p c n ((x ^^^ q) ^^^ p n))))
    by_cases e : n = k
    · subst e
      have g := fd_spg (p := fun j => if j = n then q else p j) (p' := p) (c := fun j => if j = n then true else c j) (c' := c) n (fun j hj => if_neg (by omega)) (fun j hj => if_neg (by omega))
      rw [if_pos rfl, if_pos rfl, g x, g (x ^^^ q), hc]
      constructor
      · rintro (h | ⟨_, h⟩)
        · exact Or.inl (Or.inl h)
        · exact Or.inr (Or.inl h)
      · rintro ((h | ⟨h, _⟩) | (h | ⟨h, _⟩))
        · exact Or.inl h
        · exact absurd h (by decide)
        · exact Or.inr ⟨rfl, h⟩
        · exact absurd h (by decide)
    · rw [if_neg e, if_neg e, ih (by omega) x, ih (by omega) (x ^^^ p n), fd_xr x (p n) q]
      constructor
      · rintro ((h | h) | ⟨hn, (h | h)⟩)
        · exact Or.inl (Or.inl h)
        · exact Or.inr (Or.inl h)
        · exact Or.inl (Or.inr ⟨hn, h⟩)
        · exact Or.inr (Or.inr ⟨hn, h⟩)
      · rintro ((h | ⟨hn, h⟩) | (h | ⟨hn, h⟩))
        · exact Or.inl (Or.inl h)
        · exact Or.inr ⟨hn, Or.inl h⟩
        · exact Or.inl (Or.inr h)
        · exact Or.inr ⟨hn, Or.inr h⟩
/-! ===== a code's exclusive or ===== -/
def fd_cx (p : Nat → Nat) (m : Nat) : Nat → Nat
  | 0 => 0
  | k + 1 => if m.testBit k = true then fd_cx p m k ^^^ p k else fd_cx p m k
theorem fd_cxs {p : Nat → Nat} {c : Nat → Bool} {m : Nat} : ∀ n, (∀ k, k < n → m.testBit k = true → c k = true) → fd_sp p c n (fd_cx p m n) := by
  intro n
  induction n with
  | zero => exact fun _ => rfl
  | succ n ih =>
    intro h
    have hi := ih (fun k hk => h k (by omega))
    by_cases e : m.testBit n = true
    · have z : fd_cx p m (n + 1) = fd_cx p m n ^^^ p n := if_pos e
      rw [z]
      refine Or.inr ⟨h n (by omega) e, ?_⟩
      rw [fd_xc]
      exact hi
    · have z : fd_cx p m (n + 1) = fd_cx p m n := if_neg e
      rw [z]
      exact Or.inl hi
theorem fd_cxg {p : Nat → Nat} {m m' : Nat} : ∀ n, (∀ k, k < n → m.testBit k = m'.testBit k) → fd_cx p m n = fd_cx p m' n := by
  intro n
  induction n with
  | zero => exact fun _ => rfl
  | succ n ih =>
    intro h
    show (if m.testBit n = true then fd_cx p m n ^^^ p n else fd_cx p m n) = (if m'.testBit n = true then fd_cx p m' n ^^^ p n else fd_cx p m' n)
    rw [ih (fun k hk => h k (by omega)), h n (by omega)]
theorem fd_cxe {p : Nat → Nat} {c : Nat → Bool} : ∀ n x, fd_sp p c n x → ∃ m, m < 2 ^ n ∧ (∀ k, k < n → m.testBit k = true → c k = true) ∧ x = fd_cx p m n := by
  intro n
  induction n with
  | zero => exact fun x hx => ⟨0, by decide, fun k hk => absurd hk (by omega), hx⟩
  | succ n ih =>
    intro x hx
    have hx : fd_sp p c n x ∨ (c n = true ∧ fd_sp p c n (x ^^^ p n)) := hx
    have h2 : (2 : Nat) ^ (n + 1) = 2 ^ n * 2 := by rw [Nat.pow_succ]
    rcases hx with hx | ⟨hc, hx⟩
    · obtain ⟨m, h1, h3, h4⟩ := ih x hx
      have hb := Nat.testBit_lt_two_pow h1
      refine ⟨m, by omega, fun k hk ht => ?_, ?_⟩
      · by_cases e : k = n
        · rw [e, hb] at ht
          exact absurd ht (by decide)
        · exact h3 k (by omega) ht
      · have z : fd_cx p m (n + 1) = fd_cx p m n := if_neg (by rw [hb]; decide)
        rw [z]
        exact h4
    · obtain ⟨m, h1, h3, h4⟩ := ih _ hx
      have hb := Nat.testBit_lt_two_pow h1
      have hs : (2 ^ n + m).testBit n = true := by rw [Nat.testBit_two_pow_add_eq, hb]; rfl
      have hl : ∀ k, k < n → (2 ^ n + m).testBit k = m.testBit k := fun k hk => Nat.testBit_two_pow_add_gt hk m
      refine ⟨2 ^ n + m, by omega, fun k hk ht => ?_, ?_⟩
      · by_cases e : k = n
        · rw [e]; exact hc
        · rw [hl k (by omega)] at ht
          exact h3 k (by omega) ht
      · have z : fd_cx p (2 ^ n + m) (n + 1) = fd_cx p (2 ^ n + m) n ^^^ p n := if_pos hs
        rw [z, fd_cxg n hl, ← h4, fd_xc]
theorem fd_cxlt {p : Nat → Nat} (hp : ∀ k, p k < 65536) (m : Nat) : ∀ n, fd_cx p m n < 65536 := by
  intro n
  induction n with
  | zero => exact (by decide : 0 < 65536)
  | succ n ih =>
    show (if m.testBit n = true then fd_cx p m n ^^^ p n else fd_cx p m n) < 65536
    by_cases e : m.testBit n = true
    · rw [if_pos e]
      exact Nat.xor_lt_two_pow (n := 16) ih (hp n)
    · rw [if_neg e]
      exact ih
