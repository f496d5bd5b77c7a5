section
/-! rows of the kit to paste (stores, numbers, branches, loops; bits) -/
theorem pk_us {f : Nat → Int32} {k : Nat} {x : Int32} : upd f k x k = x := if_pos rfl
theorem pk_un {f : Nat → Int32} {k j : Nat} {x : Int32} (h : j ≠ k) : upd f k x j = f j := if_neg h
theorem pk_sub {a b : Nat} (h : b ≤ a) : nI a - nI b = nI (a - b) := by
  obtain ⟨c, rfl⟩ : ∃ c, a = c + b := ⟨a - b, by omega⟩
  rw [← nI_add, Int32.add_sub_cancel, Nat.add_sub_cancel]
theorem pk_m1 (n : Nat) : nI (n + 1) + (-1) = nI n := by
  rw [← nI_1, Int32.add_assoc, show (1 : Int32) + (-1) = 0 from rfl, Int32.add_zero]
theorem pk_ix (x : Int32) {n : Nat} (hn : n < 2 ^ 31) : x < 0 ∨ nI n ≤ x ∨ ∃ j : Nat, j < n ∧ x = nI j := by
  by_cases h : x < 0
  · exact Or.inl h
  · obtain ⟨j, hj, rfl⟩ := nI_of h
    by_cases h2 : j < n
    · exact Or.inr (Or.inr ⟨j, h2, rfl⟩)
    · exact Or.inr (Or.inl (nI_le (by omega) hj))
theorem pk_le {x y : Int32} {A B : Prop} (a b : Nat) (f : a ≤ b → A) (g : b < a → B) (hx : x = nI a := by rfl) (hy : y = nI b := by rfl) (ha : a < 2 ^ 31 := by omega) (hb : b < 2 ^ 31 := by omega) : (x ≤ y → A) ∧ (¬ x ≤ y → B) := by
  subst hx hy
  rw [nI_leI ha hb]
  exact ⟨f, fun z => g (by omega)⟩
theorem pk_lt {x y : Int32} {A B : Prop} (a b : Nat) (f : a < b → A) (g : b ≤ a → B) (hx : x = nI a := by rfl) (hy : y = nI b := by rfl) (ha : a < 2 ^ 31 := by omega) (hb : b < 2 ^ 31 := by omega) : (x < y → A) ∧ (¬ x < y → B) := by
  subst hx hy
  rw [nI_ltI ha hb]
  exact ⟨f, fun z => g (by omega)⟩
theorem pk_eq {x y : Int32} {A B : Prop} (a b : Nat) (f : a = b → A) (g : a ≠ b → B) (hx : x = nI a := by rfl) (hy : y = nI b := by rfl) (ha : a < 2 ^ 31 := by omega) (hb : b < 2 ^ 31 := by omega) : (x = y → A) ∧ (¬ x = y → B) := by
  subst hx hy
  rw [nI_eq ha hb]
  exact ⟨f, g⟩
theorem pk_in {x : Int32} (n N : Nat) (h : n < N) (hx : x = nI n := by rfl) (hN : N < 2 ^ 31 := by omega) : vp_in x N := by
  subst hx
  exact vp_in_nI h hN
theorem pk_cl {x : Int32} (n : Nat) (hx : x = nI n := by rfl) (h : n < 2 ^ 31 := by omega) : x.toNatClampNeg = n := by
  subst hx
  exact nI_clamp h
theorem pk_tn {n : Nat} (h : n < 2 ^ 32) : (nI n).toBitVec.toNat = n := Nat.mod_eq_of_lt h
theorem pk_shl (a s : Int32) (k : Nat) (hs : (s.toBitVec.smod 32).toNat = k) : (a <<< s).toBitVec.toNat = a.toBitVec.toNat * 2 ^ k % 2 ^ 32 := by
  show (a.toBitVec <<< (s.toBitVec.smod 32).toNat).toNat = _
  rw [hs, BitVec.toNat_shiftLeft, Nat.shiftLeft_eq]
theorem pk_shlN {n : Nat} (s : Int32) (k : Nat) (hs : (s.toBitVec.smod 32).toNat = k) (h : n * 2 ^ k < 2 ^ 32) : nI n <<< s = nI (n * 2 ^ k) := by
  apply Int32.toBitVec_inj.mp
  apply BitVec.eq_of_toNat_eq
  have hn : n < 2 ^ 32 := Nat.lt_of_le_of_lt (Nat.le_mul_of_pos_right n (Nat.two_pow_pos k)) h
  rw [pk_shl _ _ k hs, pk_tn hn, pk_tn h, Nat.mod_eq_of_lt h]
theorem pk_shr (a s : Int32) (k : Nat) (hs : (s.toBitVec.smod 32).toNat = k) : (a >>> s).toInt = a.toInt >>> k := by
  show (a.toBitVec.sshiftRight (s.toBitVec.smod 32).toNat).toInt = _
  rw [hs, BitVec.toInt_sshiftRight]
  rfl
theorem pk_shrN {n : Nat} (h : n < 2 ^ 31) (s : Int32) (k : Nat) (hs : (s.toBitVec.smod 32).toNat = k) : nI n >>> s = nI (n / 2 ^ k) := by
  apply Int32.toInt_inj.mp
  have h2 : n / 2 ^ k ≤ n := Nat.div_le_self _ _
  rw [pk_shr _ _ k hs, nI_toInt h, nI_toInt (by omega), Int.shiftRight_eq_div_pow]
  rfl
theorem pk_loop {σ : Type} (W : Nat → Nat → σ → Prop) (I : Nat → σ → Prop) (e i0 : Nat) (s : σ) (hi : i0 ≤ e) (h0 : I i0 s) (hx : ∀ n s, I e s → W (n + 1) e s)
    (hs : ∀ n i s, i < e → I i s → (∀ s', I (i + 1) s' → W n (i + 1) s') → W (n + 1) i s) : ∃ n, W n i0 s :=
  ⟨e + 1, loop_i W I e hx hs (e + 1) i0 s hi (by omega) h0⟩
theorem pk_loopD {σ : Type} (W : Nat → Nat → σ → Prop) (I : Nat → σ → Prop) (hx : ∀ n s, I 0 s → W (n + 1) 0 s)
    (hs : ∀ n i s, I (i + 1) s → (∀ s', I i s' → W n i s') → W (n + 1) (i + 1) s) : ∀ (e : Nat) (s : σ), I e s → W (e + 1) e s := by
  intro e
  induction e with
  | zero => exact fun s h => hx 0 s h
  | succ e ih => exact fun s h => hs (e + 1) e s h (fun s' h' => ih s' h')
def bt (x : Int32) (i : Nat) : Bool := x.toBitVec.getLsbD i
theorem b_ext {x y : Int32} (h : ∀ i, i < 32 → bt x i = bt y i) : x = y := Int32.toBitVec_inj.mp (BitVec.eq_of_getLsbD_eq (fun i hi => h i hi))
theorem b_or (x y : Int32) (i : Nat) : bt (x ||| y) i = (bt x i || bt y i) := by unfold bt; rw [Int32.toBitVec_or, BitVec.getLsbD_or]
theorem b_and (x y : Int32) (i : Nat) : bt (x &&& y) i = (bt x i && bt y i) := by unfold bt; rw [Int32.toBitVec_and, BitVec.getLsbD_and]
theorem b_xor (x y : Int32) (i : Nat) : bt (x ^^^ y) i = (bt x i ^^ bt y i) := by unfold bt; rw [Int32.toBitVec_xor, BitVec.getLsbD_xor]
theorem b_big {x : Int32} {i : Nat} (h : 32 ≤ i) : bt x i = false := BitVec.getLsbD_of_ge _ _ h
theorem b_m1 : ∀ i, i < 32 → bt (-1) i = true := by decide +kernel
theorem b_0 (i : Nat) : bt 0 i = false := BitVec.getLsbD_zero
theorem s_l : ∀ n, n < 32 → ((nI n &&& 31).toBitVec.smod 32).toNat = n := by decide +kernel
theorem b_shl (n : Nat) (hn : n < 32) (x : Int32) {i : Nat} (hi : i < 32) : bt (x <<< (nI n &&& 31)) i = (decide (n ≤ i) && bt x (i - n)) := by
  unfold bt
  rw [Int32.toBitVec_shiftLeft]
  show (x.toBitVec <<< ((nI n &&& 31).toBitVec.smod 32).toNat).getLsbD i = _
  rw [s_l n hn, BitVec.getLsbD_shiftLeft]
  rcases Nat.lt_or_ge i n with h | h
  · simp [h, Nat.not_le.mpr h]
  · simp [hi, h, Nat.not_lt.mpr h]
theorem nx_and (a b : Nat) : nI a &&& nI b = nI (a &&& b) := by
  apply Int32.toBitVec_inj.1
  show BitVec.ofNat 32 a &&& BitVec.ofNat 32 b = BitVec.ofNat 32 (a &&& b)
  apply BitVec.eq_of_getLsbD_eq
  intro i hi
  simp [hi]
theorem nx_xor (a b : Nat) : nI a ^^^ nI b = nI (a ^^^ b) := by
  apply Int32.toBitVec_inj.1
  show BitVec.ofNat 32 a ^^^ BitVec.ofNat 32 b = BitVec.ofNat 32 (a ^^^ b)
  apply BitVec.eq_of_getLsbD_eq
  intro i hi
  simp [hi]
theorem nf_sh : ∀ l, l < 32 → ((1 : Int32) <<< (nI l &&& 31)).toBitVec = BitVec.twoPow 32 l := by decide +kernel
theorem nf_tp : ∀ l, l < 32 → BitVec.twoPow 32 l ≠ 0#32 := by decide +kernel
end
section
/-! ===== exclusive or on naturals ===== -/
theorem fd_xc (a b : Nat) : (a ^^^ b) ^^^ b = a := by rw [Nat.xor_assoc, Nat.xor_self, Nat.xor_zero]
theorem fd_xr (a b c : Nat) : (a ^^^ b) ^^^ c = (a ^^^ c) ^^^ b := by rw [Nat.xor_assoc, Nat.xor_comm b c, ← Nat.xor_assoc]
theorem fd_xl (a b : Nat) : a ^^^ (a ^^^ b) = b := by rw [← Nat.xor_assoc, Nat.xor_self, Nat.zero_xor]
theorem fd_x0 {a b : Nat} (h : a ^^^ b = 0) : a = b := by
  have t := fd_xc a b
  rw [h, Nat.zero_xor] at t
  exact t.symm
theorem fd_d (a b : Nat) : (a ^^^ b) / 256 = a / 256 ^^^ b / 256 := Nat.xor_div_two_pow (n := 8)
theorem fd_m (a b : Nat) : (a ^^^ b) % 256 = a % 256 ^^^ b % 256 := Nat.xor_mod_two_pow (n := 8)
theorem fd_x2 {x y n : Nat} (hx : 2 ^ n ≤ x) (hx' : x < 2 ^ (n + 1)) (hy : 2 ^ n ≤ y) (hy' : y < 2 ^ (n + 1)) : x ^^^ y < 2 ^ n := by
  apply Nat.lt_pow_two_of_testBit
  intro i hi
  rw [Nat.testBit_xor]
  rcases Nat.eq_or_lt_of_le hi with e | e
  · rw [← e, Nat.testBit_of_two_pow_le_and_two_pow_add_one_gt hx hx', Nat.testBit_of_two_pow_le_and_two_pow_add_one_gt hy hy']
    rfl
  · have h2 : (2 : Nat) ^ (n + 1) ≤ 2 ^ i := Nat.pow_le_pow_right (by decide) e
    rw [Nat.testBit_lt_two_pow (Nat.lt_of_lt_of_le hx' h2), Nat.testBit_lt_two_pow (Nat.lt_of_lt_of_le hy' h2)]
    rfl
theorem fd_tbn {x n : Nat} (h : x < 2 ^ (n + 1)) (hn : ¬ x.testBit n = true) : x < 2 ^ n :=
  Nat.lt_of_not_le (fun h' => hn (Nat.testBit_of_two_pow_le_and_two_pow_add_one_gt h' h))
/-! ===== the span of the first n drops that c chooses ===== -/
def fd_sp (p : Nat → Nat) (c : Nat → Bool) : Nat → Nat → Prop
  | 0 => fun x => x = 0
  | k + 1 => fun x => fd_sp p c k x ∨ (c k = true ∧ fd_sp p c k (x ^^^ p k))
def fd_cl (L : Nat → Prop) : Prop := L 0 ∧ ∀ x y, L x → L y → L (x ^^^ y)
def fd_con (L : Nat → Prop) : Prop := ∀ x, L x → x < 256 → x = 0
theorem fd_sp0 (p : Nat → Nat) (c : Nat → Bool) : ∀ n, fd_sp p c n 0 := by
  intro n
  induction n with
  | zero => exact rfl
  | succ n ih => exact Or.inl ih
theorem fd_spx (p : Nat → Nat) (c : Nat → Bool) : ∀ n x y, fd_sp p c n x → fd_sp p c n y → fd_sp p c n (x ^^^ y) := by
  intro n
  induction n with
  | zero =>
    intro x y hx hy
    have hx' : x = 0 := hx
    have hy' : y = 0 := hy
    rw [hx', hy']
    exact Nat.xor_self 0
  | succ n ih =>
    intro x y hx hy
    have hx : fd_sp p c n x ∨ (c n = true ∧ fd_sp p c n (x ^^^ p n)) := hx
    have hy : fd_sp p c n y ∨ (c n = true ∧ fd_sp p c n (y ^^^ p n)) := hy
    show fd_sp p c n (x ^^^ y) ∨ (c n = true ∧ fd_sp p c n ((x ^^^ y) ^^^ p n))
    rcases hx with hx | ⟨hc, hx⟩
    · rcases hy with hy | ⟨hd, hy⟩
      · exact Or.inl (ih _ _ hx hy)
      · refine Or.inr ⟨hd, ?_⟩
        rw [Nat.xor_assoc]
        exact ih _ _ hx hy
    · rcases hy with hy | ⟨hd, hy⟩
      · refine Or.inr ⟨hc, ?_⟩
        rw [fd_xr]
        exact ih _ _ hx hy
      · refine Or.inl ?_
        have t := ih _ _ hx hy
        rw [Nat.xor_comm y (p n), ← Nat.xor_assoc, fd_xc] at t
        exact t
theorem fd_spcl (p : Nat → Nat) (c : Nat → Bool) (n : Nat) : fd_cl (fd_sp p c n) := ⟨fd_sp0 p c n, fd_spx p c n⟩
theorem fd_splt {p : Nat → Nat} {c : Nat → Bool} (hp : ∀ k, p k < 65536) : ∀ n x, fd_sp p c n x → x < 65536 := by
  intro n
  induction n with
  | zero =>
    intro x hx
    have hx : x = 0 := hx
    omega
  | succ n ih =>
    intro x hx
    have hx : fd_sp p c n x ∨ (c n = true ∧ fd_sp p c n (x ^^^ p n)) := hx
    rcases hx with hx | ⟨_, hx⟩
    · exact ih x hx
    · have t := Nat.xor_lt_two_pow (n := 16) (ih _ hx) (hp n)
      rw [fd_xc] at t
      exact t
theorem fd_spm {p : Nat → Nat} {c c' : Nat → Bool} : ∀ n, (∀ k, k < n → c k = true → c' k = true) → ∀ x, fd_sp p c n x → fd_sp p c' n x := by
  intro n
  induction n with
  | zero => exact fun _ x hx => hx
  | succ n ih =>
    intro hc x hx
    have hx : fd_sp p c n x ∨ (c n = true ∧ fd_sp p c n (x ^^^ p n)) := hx
    have hi := ih (fun k hk => hc k (by omega))
    rcases hx with hx | ⟨h1, hx⟩
    · exact Or.inl (hi x hx)
    · exact Or.inr ⟨hc n (by omega) h1, hi _ hx⟩
theorem fd_spg {p p' : Nat → Nat} {c c' : Nat → Bool} : ∀ n, (∀ k, k < n → p k = p' k) → (∀ k, k < n → c k = c' k) → ∀ x, fd_sp p c n x ↔ fd_sp p' c' n x := by
  intro n
  induction n with
  | zero => exact fun _ _ x => Iff.rfl
  | succ n ih =>
    intro hp hc x
    have hi := ih (fun k hk => hp k (by omega)) (fun k hk => hc k (by omega))
    show (fd_sp p c n x ∨ (c n = true ∧ fd_sp p c n (x ^^^ p n))) ↔ (fd_sp p' c' n x ∨ (c' n = true ∧ fd_sp p' c' n (x ^^^ p' n)))
    rw [hi x, hp n (by omega), hc n (by omega), hi (x ^^^ p' n)]
theorem fd_spu (p : Nat → Nat) (c : Nat → Bool) (k q : Nat) (hc : c k = false) : ∀ n, k < n → ∀ x, fd_sp (fun j => if j = k then q else p j) (fun j => if j = k then true else c j) n x ↔ (fd_sp p c n x ∨ fd_sp p c n (x ^^^ q)) := by
  intro n
  induction n with
  | zero => intro h; omega
  | succ n ih =>
    intro hk x
    show (fd_sp (fun j => if j = k then q else p j) (fun j => if j = k then true else c j) n x ∨ ((if n = k then true else c n) = true ∧ fd_sp (fun j => if j = k then q else p j) (fun j => if j = k then true else c j) n (x ^^^ (if n = k then q else p n)))) ↔ ((fd_sp p c n x ∨ (c n = true ∧ fd_sp p c n (x ^^^ p n))) ∨ (fd_sp p c n (x ^^^ q) ∨ (c n = true ∧ fd_sp p c n ((x ^^^ q) ^^^ p n))))
    by_cases e : n = k
    · subst e
      have g := fd_spg (p := fun j => if j = n then q else p j) (p' := p) (c := fun j => if j = n then true else c j) (c' := c) n (fun j hj => if_neg (by omega)) (fun j hj => if_neg (by omega))
      rw [if_pos rfl, if_pos rfl, g x, g (x ^^^ q), hc]
      constructor
      · rintro (h | ⟨_, h⟩)
        · exact Or.inl (Or.inl h)
        · exact Or.inr (Or.inl h)
      · rintro ((h | ⟨h, _⟩) | (h | ⟨h, _⟩))
        · exact Or.inl h
        · exact absurd h (by decide)
        · exact Or.inr ⟨rfl, h⟩
        · exact absurd h (by decide)
    · rw [if_neg e, if_neg e, ih (by omega) x, ih (by omega) (x ^^^ p n), fd_xr x (p n) q]
      constructor
      · rintro ((h | h) | ⟨hn, (h | h)⟩)
        · exact Or.inl (Or.inl h)
        · exact Or.inr (Or.inl h)
        · exact Or.inl (Or.inr ⟨hn, h⟩)
        · exact Or.inr (Or.inr ⟨hn, h⟩)
      · rintro ((h | ⟨hn, h⟩) | (h | ⟨hn, h⟩))
        · exact Or.inl (Or.inl h)
        · exact Or.inr ⟨hn, Or.inl h⟩
        · exact Or.inl (Or.inr h)
        · exact Or.inr ⟨hn, Or.inr h⟩
/-! ===== a code's exclusive or ===== -/
def fd_cx (p : Nat → Nat) (m : Nat) : Nat → Nat
  | 0 => 0
  | k + 1 => if m.testBit k = true then fd_cx p m k ^^^ p k else fd_cx p m k
theorem fd_cxs {p : Nat → Nat} {c : Nat → Bool} {m : Nat} : ∀ n, (∀ k, k < n → m.testBit k = true → c k = true) → fd_sp p c n (fd_cx p m n) := by
  intro n
  induction n with
  | zero => exact fun _ => rfl
  | succ n ih =>
    intro h
    have hi := ih (fun k hk => h k (by omega))
    by_cases e : m.testBit n = true
    · have z : fd_cx p m (n + 1) = fd_cx p m n ^^^ p n := if_pos e
      rw [z]
      refine Or.inr ⟨h n (by omega) e, ?_⟩
      rw [fd_xc]
      exact hi
    · have z : fd_cx p m (n + 1) = fd_cx p m n := if_neg e
      rw [z]
      exact Or.inl hi
theorem fd_cxg {p : Nat → Nat} {m m' : Nat} : ∀ n, (∀ k, k < n → m.testBit k = m'.testBit k) → fd_cx p m n = fd_cx p m' n := by
  intro n
  induction n with
  | zero => exact fun _ => rfl
  | succ n ih =>
    intro h
    show (if m.testBit n = true then fd_cx p m n ^^^ p n else fd_cx p m n) = (if m'.testBit n = true then fd_cx p m' n ^^^ p n else fd_cx p m' n)
    rw [ih (fun k hk => h k (by omega)), h n (by omega)]
theorem fd_cxe {p : Nat → Nat} {c : Nat → Bool} : ∀ n x, fd_sp p c n x → ∃ m, m < 2 ^ n ∧ (∀ k, k < n → m.testBit k = true → c k = true) ∧ x = fd_cx p m n := by
  intro n
  induction n with
  | zero => exact fun x hx => ⟨0, by decide, fun k hk => absurd hk (by omega), hx⟩
  | succ n ih =>
    intro x hx
    have hx : fd_sp p c n x ∨ (c n = true ∧ fd_sp p c n (x ^^^ p n)) := hx
    have h2 : (2 : Nat) ^ (n + 1) = 2 ^ n * 2 := by rw [Nat.pow_succ]
    rcases hx with hx | ⟨hc, hx⟩
    · obtain ⟨m, h1, h3, h4⟩ := ih x hx
      have hb := Nat.testBit_lt_two_pow h1
      refine ⟨m, by omega, fun k hk ht => ?_, ?_⟩
      · by_cases e : k = n
        · rw [e, hb] at ht
          exact absurd ht (by decide)
        · exact h3 k (by omega) ht
      · have z : fd_cx p m (n + 1) = fd_cx p m n := if_neg (by rw [hb]; decide)
        rw [z]
        exact h4
    · obtain ⟨m, h1, h3, h4⟩ := ih _ hx
      have hb := Nat.testBit_lt_two_pow h1
      have hs : (2 ^ n + m).testBit n = true := by rw [Nat.testBit_two_pow_add_eq, hb]; rfl
      have hl : ∀ k, k < n → (2 ^ n + m).testBit k = m.testBit k := fun k hk => Nat.testBit_two_pow_add_gt hk m
      refine ⟨2 ^ n + m, by omega, fun k hk ht => ?_, ?_⟩
      · by_cases e : k = n
        · rw [e]; exact hc
        · rw [hl k (by omega)] at ht
          exact h3 k (by omega) ht
      · have z : fd_cx p (2 ^ n + m) (n + 1) = fd_cx p (2 ^ n + m) n ^^^ p n := if_pos hs
        rw [z, fd_cxg n hl, ← h4, fd_xc]
theorem fd_cxlt {p : Nat → Nat} (hp : ∀ k, p k < 65536) (m : Nat) : ∀ n, fd_cx p m n < 65536 := by
  intro n
  induction n with
  | zero => exact (by decide : 0 < 65536)
  | succ n ih =>
    show (if m.testBit n = true then fd_cx p m n ^^^ p n else fd_cx p m n) < 65536
    by_cases e : m.testBit n = true
    · rw [if_pos e]
      exact Nat.xor_lt_two_pow (n := 16) ih (hp n)
    · rw [if_neg e]
      exact ih
end
section
/-! ===== rows in steps: row b is 0, or its greatest bit is 8 + b ===== -/
def fd_E (R : Nat → Nat) (L : Nat → Prop) : Prop := ∀ b, b < 8 → (R b = 0 ∧ ∀ x, L x → x < 2 ^ (8 + b + 1) → x < 2 ^ (8 + b)) ∨ (2 ^ (8 + b) ≤ R b ∧ R b < 2 ^ (8 + b + 1) ∧ L (R b))
def fd_red (R : Nat → Nat) : Nat → Nat → Nat
  | 0 => fun x => x
  | b + 1 => fun x => fd_red R b (if x.testBit (8 + b) = true then x ^^^ R b else x)
def fd_add (R : Nat → Nat) : Nat → Nat → Nat → Nat
  | 0 => fun _ => R
  | b + 1 => fun x => if x.testBit (8 + b) = true then (if R b = 0 then (fun j => if j = b then x else R j) else fd_add R b (x ^^^ R b)) else fd_add R b x
def fd_rows (p : Nat → Nat) (c : Nat → Bool) : Nat → Nat → Nat
  | 0 => fun _ => 0
  | k + 1 => if c k = true then fd_add (fd_rows p c k) 8 (p k) else fd_rows p c k
def fd_rk (R : Nat → Nat) : Nat → Nat
  | 0 => 0
  | b + 1 => if R b = 0 then fd_rk R b else fd_rk R b + 1
theorem fd_pw (m n : Nat) (h : m ≤ n) : (2 : Nat) ^ m ≤ 2 ^ n := Nat.pow_le_pow_right (by decide) h
theorem fd_Ec {R : Nat → Nat} {L L' : Nat → Prop} (h : fd_E R L) (e : ∀ x, L' x ↔ L x) : fd_E R L' := by
  intro b hb
  rcases h b hb with ⟨z, h1⟩ | ⟨h1, h2, h3⟩
  · exact Or.inl ⟨z, fun x hx => h1 x ((e x).mp hx)⟩
  · exact Or.inr ⟨h1, h2, (e _).mpr h3⟩
theorem fd_red1 {R : Nat → Nat} {L : Nat → Prop} (hE : fd_E R L) (hL : fd_cl L) : ∀ b x, b ≤ 8 → ∃ y, L y ∧ fd_red R b x = x ^^^ y := by
  intro b
  induction b with
  | zero => exact fun x _ => ⟨0, hL.1, (Nat.xor_zero x).symm⟩
  | succ b ih =>
    intro x hb
    have e0 : fd_red R (b + 1) x = fd_red R b (if x.testBit (8 + b) = true then x ^^^ R b else x) := rfl
    by_cases h : x.testBit (8 + b) = true
    · obtain ⟨y, hy, e⟩ := ih (x ^^^ R b) (by omega)
      have hR : L (R b) := by
        rcases hE b (by omega) with ⟨z, _⟩ | ⟨_, _, z⟩
        · rw [z]; exact hL.1
        · exact z
      refine ⟨R b ^^^ y, hL.2 _ _ hR hy, ?_⟩
      rw [e0, if_pos h, e, Nat.xor_assoc]
    · obtain ⟨y, hy, e⟩ := ih x (by omega)
      refine ⟨y, hy, ?_⟩
      rw [e0, if_neg h, e]
theorem fd_red2 {R : Nat → Nat} {L : Nat → Prop} (hE : fd_E R L) (hL : fd_cl L) : ∀ b x, b ≤ 8 → L x → x < 2 ^ (8 + b) → fd_red R b x < 256 := by
  intro b
  induction b with
  | zero =>
    intro x _ _ hx
    exact hx
  | succ b ih =>
    intro x hb hLx hx
    have hx : x < 2 ^ (8 + b + 1) := hx
    have e0 : fd_red R (b + 1) x = fd_red R b (if x.testBit (8 + b) = true then x ^^^ R b else x) := rfl
    by_cases h : x.testBit (8 + b) = true
    · rw [e0, if_pos h]
      have h1 := Nat.ge_two_pow_of_testBit h
      rcases hE b (by omega) with ⟨_, z⟩ | ⟨z1, z2, z3⟩
      · exact absurd (z x hLx hx) (Nat.not_lt.mpr h1)
      · exact ih _ (by omega) (hL.2 _ _ hLx z3) (fd_x2 h1 hx z1 z2)
    · rw [e0, if_neg h]
      exact ih _ (by omega) hLx (fd_tbn hx h)
theorem fd_red3 (R : Nat → Nat) {z : Nat} (hz : z < 256) : ∀ b x, fd_red R b (x ^^^ z) = fd_red R b x ^^^ z := by
  intro b
  induction b with
  | zero => exact fun x => rfl
  | succ b ih =>
    intro x
    have h8 : (2 : Nat) ^ 8 ≤ 2 ^ (8 + b) := fd_pw _ _ (by omega)
    have hb : z.testBit (8 + b) = false := Nat.testBit_lt_two_pow (Nat.lt_of_lt_of_le hz h8)
    have e : (x ^^^ z).testBit (8 + b) = x.testBit (8 + b) := by rw [Nat.testBit_xor, hb, Bool.xor_false]
    have e0 : fd_red R (b + 1) x = fd_red R b (if x.testBit (8 + b) = true then x ^^^ R b else x) := rfl
    have e1 : fd_red R (b + 1) (x ^^^ z) = fd_red R b (if (x ^^^ z).testBit (8 + b) = true then (x ^^^ z) ^^^ R b else x ^^^ z) := rfl
    rw [e0, e1, e]
    by_cases h : x.testBit (8 + b) = true
    · rw [if_pos h, if_pos h, fd_xr, ih]
    · rw [if_neg h, if_neg h, ih]
theorem fd_redL {R : Nat → Nat} {L : Nat → Prop} (hE : fd_E R L) (hL : fd_cl L) (hb : ∀ x, L x → x < 65536) (q : Nat) : ∃ y, L y ∧ fd_red R 8 q = q ^^^ y ∧ (fd_red R 8 q < 256 → y / 256 = q / 256) ∧ ((∃ x, L x ∧ x / 256 = q / 256) → fd_red R 8 q < 256) := by
  obtain ⟨y, hy, e⟩ := fd_red1 hE hL 8 q (by omega)
  refine ⟨y, hy, e, fun h => ?_, ?_⟩
  · have t : (q ^^^ y) / 256 = 0 := by rw [← e]; exact Nat.div_eq_of_lt h
    rw [fd_d] at t
    exact (fd_x0 t).symm
  · rintro ⟨x, hx, ex⟩
    have hz : (x ^^^ q) < 256 := by
      have t : (x ^^^ q) / 256 = 0 := by rw [fd_d, ex, Nat.xor_self]
      omega
    have e2 : q = x ^^^ (x ^^^ q) := (fd_xl x q).symm
    rw [e2, fd_red3 R hz]
    exact Nat.xor_lt_two_pow (n := 8) (fd_red2 hE hL 8 x (by omega) hx (hb x hx)) hz
theorem fd_addE {R : Nat → Nat} {L : Nat → Prop} (hE : fd_E R L) (hL : fd_cl L) : ∀ b x, b ≤ 8 → x < 2 ^ (8 + b) → fd_E (fd_add R b x) (fun y => L y ∨ L (y ^^^ x)) := by
  intro b
  induction b with
  | zero =>
    intro x _ hx j hj
    have hx : x < 2 ^ 8 := hx
    have h8 := fd_pw 8 (8 + j) (by omega)
    have h9 := fd_pw (8 + j) (8 + j + 1) (by omega)
    rcases hE j hj with ⟨z, h1⟩ | ⟨h1, h2, h3⟩
    · refine Or.inl ⟨z, fun y hy hlt => ?_⟩
      rcases hy with hy | hy
      · exact h1 y hy hlt
      · have t := h1 _ hy (Nat.xor_lt_two_pow hlt (Nat.lt_of_lt_of_le hx (Nat.le_trans h8 h9)))
        have t2 := Nat.xor_lt_two_pow t (Nat.lt_of_lt_of_le hx h8)
        rw [fd_xc] at t2
        exact t2
    · exact Or.inr ⟨h1, h2, Or.inl h3⟩
  | succ b ih =>
    intro x hb hx
    have hx : x < 2 ^ (8 + b + 1) := hx
    have e0 : fd_add R (b + 1) x = if x.testBit (8 + b) = true then (if R b = 0 then (fun j => if j = b then x else R j) else fd_add R b (x ^^^ R b)) else fd_add R b x := rfl
    by_cases h : x.testBit (8 + b) = true
    · have hx1 : 2 ^ (8 + b) ≤ x := Nat.ge_two_pow_of_testBit h
      by_cases hz : R b = 0
      · rw [e0, if_pos h, if_pos hz]
        have hbE : ∀ y, L y → y < 2 ^ (8 + b + 1) → y < 2 ^ (8 + b) := by
          rcases hE b (by omega) with ⟨_, t⟩ | ⟨t, _, _⟩
          · exact t
          · rw [hz] at t
            exact absurd (Nat.two_pow_pos (8 + b)) (Nat.not_lt.mpr t)
        intro j hj
        by_cases hjb : j = b
        · have ej : (if j = b then x else R j) = x := if_pos hjb
          dsimp only
          rw [ej]
          refine Or.inr ⟨by rw [hjb]; exact hx1, by rw [hjb]; exact hx, Or.inr ?_⟩
          rw [Nat.xor_self]
          exact hL.1
        · have ej : (if j = b then x else R j) = R j := if_neg hjb
          dsimp only
          rw [ej]
          rcases hE j hj with ⟨z, h1⟩ | ⟨h1, h2, h3⟩
          · refine Or.inl ⟨z, fun y hy hlt => ?_⟩
            rcases hy with hy | hy
            · exact h1 y hy hlt
            · rcases Nat.lt_or_gt_of_ne hjb with c | c
              · have q1 := fd_pw (8 + j + 1) (8 + b) (by omega)
                have q2 := fd_pw (8 + b) (8 + b + 1) (by omega)
                have hy1 : y < 2 ^ (8 + b) := Nat.lt_of_lt_of_le hlt q1
                have t := hbE _ hy (Nat.xor_lt_two_pow (Nat.lt_of_lt_of_le hy1 q2) hx)
                have t2 := Nat.xor_lt_two_pow t hy1
                rw [fd_xr, Nat.xor_self, Nat.zero_xor] at t2
                exact absurd t2 (Nat.not_lt.mpr hx1)
              · have q1 := fd_pw (8 + b + 1) (8 + j) (by omega)
                have q2 := fd_pw (8 + j) (8 + j + 1) (by omega)
                have hx2 : x < 2 ^ (8 + j) := Nat.lt_of_lt_of_le hx q1
                have t := h1 _ hy (Nat.xor_lt_two_pow hlt (Nat.lt_of_lt_of_le hx2 q2))
                have t2 := Nat.xor_lt_two_pow t hx2
                rw [fd_xc] at t2
                exact t2
          · exact Or.inr ⟨h1, h2, Or.inl h3⟩
      · rw [e0, if_pos h, if_neg hz]
        rcases hE b (by omega) with ⟨t, _⟩ | ⟨z1, z2, z3⟩
        · exact absurd t hz
        · refine fd_Ec (ih (x ^^^ R b) (by omega) (fd_x2 hx1 hx z1 z2)) (fun y => or_congr Iff.rfl ?_)
          rw [← Nat.xor_assoc]
          refine ⟨fun t => hL.2 _ _ t z3, fun t => ?_⟩
          have t2 := hL.2 _ _ t z3
          rw [fd_xc] at t2
          exact t2
    · rw [e0, if_neg h]
      exact ih x (by omega) (fd_tbn hx h)
theorem fd_clx {L : Nat → Prop} (hL : fd_cl L) (q : Nat) : fd_cl (fun y => L y ∨ L (y ^^^ q)) := by
  refine ⟨Or.inl hL.1, fun x y hx hy => ?_⟩
  show L (x ^^^ y) ∨ L ((x ^^^ y) ^^^ q)
  rcases hx with hx | hx
  · rcases hy with hy | hy
    · exact Or.inl (hL.2 _ _ hx hy)
    · refine Or.inr ?_
      rw [Nat.xor_assoc]
      exact hL.2 _ _ hx hy
  · rcases hy with hy | hy
    · refine Or.inr ?_
      rw [fd_xr]
      exact hL.2 _ _ hx hy
    · refine Or.inl ?_
      have t := hL.2 _ _ hx hy
      rw [Nat.xor_comm y q, ← Nat.xor_assoc, fd_xc] at t
      exact t
theorem fd_rowsE {p : Nat → Nat} (c : Nat → Bool) (hp : ∀ k, p k < 65536) : ∀ n, fd_E (fd_rows p c n) (fd_sp p c n) := by
  intro n
  induction n with
  | zero =>
    intro b _
    refine Or.inl ⟨rfl, fun x hx _ => ?_⟩
    have hx : x = 0 := hx
    rw [hx]
    exact Nat.two_pow_pos _
  | succ n ih =>
    by_cases h : c n = true
    · have e : fd_rows p c (n + 1) = fd_add (fd_rows p c n) 8 (p n) := if_pos h
      rw [e]
      exact fd_Ec (fd_addE ih (fd_spcl p c n) 8 (p n) (by omega) (hp n)) (fun x => ⟨fun t => t.elim Or.inl (fun t => Or.inr t.2), fun t => t.elim Or.inl (fun t => Or.inr ⟨h, t⟩)⟩)
    · have e : fd_rows p c (n + 1) = fd_rows p c n := if_neg h
      rw [e]
      exact fd_Ec ih (fun x => ⟨fun t => t.elim id (fun t => absurd t.1 h), Or.inl⟩)
theorem fd_rowsg {p : Nat → Nat} {c c' : Nat → Bool} : ∀ n, (∀ k, k < n → c k = c' k) → fd_rows p c n = fd_rows p c' n := by
  intro n
  induction n with
  | zero => exact fun _ => rfl
  | succ n ih =>
    intro h
    show (if c n = true then fd_add (fd_rows p c n) 8 (p n) else fd_rows p c n) = (if c' n = true then fd_add (fd_rows p c' n) 8 (p n) else fd_rows p c' n)
    rw [ih (fun k hk => h k (by omega)), h n (by omega)]
/-! ===== the greatest number that a row may hold ===== -/
theorem fd_rowlt {R : Nat → Nat} {L : Nat → Prop} (hE : fd_E R L) {b : Nat} (hb : b < 8) : R b < 65536 := by
  rcases hE b hb with ⟨z, _⟩ | ⟨_, z, _⟩
  · rw [z]; decide
  · exact Nat.lt_of_lt_of_le z (fd_pw _ 16 (by omega))
/-! ===== counting ===== -/
def fd_ct (g : Nat → Bool) : Nat → Nat
  | 0 => 0
  | n + 1 => if g n = true then fd_ct g n + 1 else fd_ct g n
theorem fd_ctg {g h : Nat → Bool} : ∀ n, (∀ k, k < n → g k = h k) → fd_ct g n = fd_ct h n := by
  intro n
  induction n with
  | zero => exact fun _ => rfl
  | succ n ih =>
    intro e
    show (if g n = true then fd_ct g n + 1 else fd_ct g n) = (if h n = true then fd_ct h n + 1 else fd_ct h n)
    rw [ih (fun k hk => e k (by omega)), e n (by omega)]
theorem fd_ctle (g : Nat → Bool) : ∀ n, fd_ct g n ≤ n := by
  intro n
  induction n with
  | zero => exact Nat.le_refl 0
  | succ n ih =>
    show (if g n = true then fd_ct g n + 1 else fd_ct g n) ≤ n + 1
    by_cases h : g n = true
    · rw [if_pos h]; omega
    · rw [if_neg h]; omega
theorem fd_cta (g : Nat → Bool) (m : Nat) : ∀ n, fd_ct g (m + n) = fd_ct g m + fd_ct (fun s => g (m + s)) n := by
  intro n
  induction n with
  | zero => exact rfl
  | succ n ih =>
    show (if g (m + n) = true then fd_ct g (m + n) + 1 else fd_ct g (m + n)) = fd_ct g m + (if g (m + n) = true then fd_ct (fun s => g (m + s)) n + 1 else fd_ct (fun s => g (m + s)) n)
    rw [ih]
    by_cases h : g (m + n) = true
    · rw [if_pos h, if_pos h]; omega
    · rw [if_neg h, if_neg h]
theorem fd_ct0 {g : Nat → Bool} : ∀ n, (∀ k, k < n → ¬ g k = true) → fd_ct g n = 0 := by
  intro n
  induction n with
  | zero => exact fun _ => rfl
  | succ n ih =>
    intro e
    show (if g n = true then fd_ct g n + 1 else fd_ct g n) = 0
    rw [if_neg (e n (by omega)), ih (fun k hk => e k (by omega))]
theorem fd_pa {s n : Nat} (h : s < 2 ^ n) : 2 ^ n + s = s ^^^ 2 ^ n := by
  apply Nat.eq_of_testBit_eq
  intro i
  rw [Nat.testBit_xor]
  rcases Nat.lt_trichotomy i n with c | c | c
  · rw [Nat.testBit_two_pow_add_gt c, Nat.testBit_two_pow_of_ne (by omega), Bool.xor_false]
  · rw [c, Nat.testBit_two_pow_add_eq, Nat.testBit_two_pow_self, Bool.xor_true]
  · have h2 : (2 : Nat) ^ (n + 1) = 2 ^ n * 2 := by rw [Nat.pow_succ]
    have h3 := fd_pw (n + 1) i c
    rw [Nat.testBit_lt_two_pow (show 2 ^ n + s < 2 ^ i by omega), Nat.testBit_lt_two_pow (show s < 2 ^ i by omega), Nat.testBit_two_pow_of_ne (by omega)]
    rfl
theorem fd_ctx : ∀ b (g : Nat → Bool) r, r < 2 ^ b → fd_ct (fun s => g (s ^^^ r)) (2 ^ b) = fd_ct g (2 ^ b) := by
  intro b
  induction b with
  | zero =>
    intro g r hr
    have hr : r = 0 := by have hr : r < 1 := hr; omega
    rw [hr]
    exact fd_ctg _ (fun k _ => by rw [Nat.xor_zero])
  | succ b ih =>
    intro g r hr
    have h2 : (2 : Nat) ^ (b + 1) = 2 ^ b + 2 ^ b := by rw [Nat.pow_succ]; omega
    rw [h2, fd_cta, fd_cta g]
    by_cases h : r < 2 ^ b
    · have e : fd_ct (fun s => g ((2 ^ b + s) ^^^ r)) (2 ^ b) = fd_ct (fun s => (fun t => g (2 ^ b + t)) (s ^^^ r)) (2 ^ b) := by
        refine fd_ctg _ (fun s hs => ?_)
        show g ((2 ^ b + s) ^^^ r) = g (2 ^ b + (s ^^^ r))
        rw [fd_pa hs, fd_pa (Nat.xor_lt_two_pow hs h), fd_xr]
      rw [e, ih g r h, ih (fun t => g (2 ^ b + t)) r h]
    · have hr' : r - 2 ^ b < 2 ^ b := by omega
      have er : r = (r - 2 ^ b) ^^^ 2 ^ b := by rw [← fd_pa hr']; omega
      have e1 : fd_ct (fun s => g (s ^^^ r)) (2 ^ b) = fd_ct (fun s => (fun t => g (2 ^ b + t)) (s ^^^ (r - 2 ^ b))) (2 ^ b) := by
        refine fd_ctg _ (fun s hs => ?_)
        show g (s ^^^ r) = g (2 ^ b + (s ^^^ (r - 2 ^ b)))
        rw [fd_pa (Nat.xor_lt_two_pow hs hr'), Nat.xor_assoc, ← er]
      have e2 : fd_ct (fun s => g ((2 ^ b + s) ^^^ r)) (2 ^ b) = fd_ct (fun s => g (s ^^^ (r - 2 ^ b))) (2 ^ b) := by
        refine fd_ctg _ (fun s hs => ?_)
        show g ((2 ^ b + s) ^^^ r) = g (s ^^^ (r - 2 ^ b))
        have t : (2 ^ b + s) ^^^ r = s ^^^ (r - 2 ^ b) := by
          rw [fd_pa hs]
          generalize hw : r - 2 ^ b = w at er
          rw [er, ← Nat.xor_assoc, fd_xr s (2 ^ b) w, fd_xc]
        rw [t]
      rw [e1, e2, ih g _ hr', ih (fun t => g (2 ^ b + t)) _ hr', Nat.add_comm]
theorem fd_count {R : Nat → Nat} {L : Nat → Prop} (hE : fd_E R L) (hL : fd_cl L) {g : Nat → Bool} (hg : ∀ s, s < 256 → (g s = true ↔ ∃ x, L x ∧ x / 256 = s)) : ∀ b, b ≤ 8 → fd_ct g (2 ^ b) = 2 ^ fd_rk R b := by
  intro b
  induction b with
  | zero =>
    intro _
    have h0 : g 0 = true := (hg 0 (by omega)).mpr ⟨0, hL.1, rfl⟩
    show (if g 0 = true then 0 + 1 else 0) = 1
    rw [if_pos h0]
  | succ b ih =>
    intro hb
    have h2 : (2 : Nat) ^ (b + 1) = 2 ^ b + 2 ^ b := by rw [Nat.pow_succ]; omega
    have h8 := fd_pw (b + 1) 8 (by omega)
    have ep : (2 : Nat) ^ (8 + b) = 256 * 2 ^ b := Nat.pow_add 2 8 b
    have ep1 : (2 : Nat) ^ (8 + b + 1) = 256 * (2 ^ b + 2 ^ b) := by rw [Nat.pow_succ, ep]; omega
    rw [h2, fd_cta, ih (by omega)]
    have er : fd_rk R (b + 1) = if R b = 0 then fd_rk R b else fd_rk R b + 1 := rfl
    rcases hE b (by omega) with ⟨z, h1⟩ | ⟨h1, h3, h4⟩
    · rw [er, if_pos z, fd_ct0, Nat.add_zero]
      intro s hs ht
      obtain ⟨x, hx, ex⟩ := (hg (2 ^ b + s) (by omega)).mp ht
      have t := h1 x hx (by omega)
      omega
    · have z : ¬ R b = 0 := by
        have := Nat.two_pow_pos (8 + b)
        omega
      rw [er, if_neg z]
      have hr1 : 2 ^ b ≤ R b / 256 := by omega
      have hr2 : R b / 256 < 2 ^ b + 2 ^ b := by omega
      have hr' : R b / 256 - 2 ^ b < 2 ^ b := by omega
      have e : fd_ct (fun s => g (2 ^ b + s)) (2 ^ b) = fd_ct (fun s => g (s ^^^ (R b / 256 - 2 ^ b))) (2 ^ b) := by
        refine fd_ctg _ (fun s hs => ?_)
        show g (2 ^ b + s) = g (s ^^^ (R b / 256 - 2 ^ b))
        have hw : s ^^^ (R b / 256 - 2 ^ b) < 2 ^ b := Nat.xor_lt_two_pow hs hr'
        have er2 : R b / 256 = (R b / 256 - 2 ^ b) ^^^ 2 ^ b := by rw [← fd_pa hr']; omega
        have k : (2 ^ b + s) ^^^ (R b / 256) = s ^^^ (R b / 256 - 2 ^ b) := by
          rw [fd_pa hs]
          generalize R b / 256 - 2 ^ b = w at er2
          rw [er2, ← Nat.xor_assoc, fd_xr s (2 ^ b) w, fd_xc]
        have k2 : (s ^^^ (R b / 256 - 2 ^ b)) ^^^ (R b / 256) = 2 ^ b + s := by rw [← k, fd_xc]
        apply Bool.eq_iff_iff.mpr
        rw [hg _ (by omega), hg _ (by omega)]
        constructor
        · rintro ⟨x, hx, ex⟩
          exact ⟨x ^^^ R b, hL.2 _ _ hx h4, by rw [fd_d, ex, k]⟩
        · rintro ⟨x, hx, ex⟩
          exact ⟨x ^^^ R b, hL.2 _ _ hx h4, by rw [fd_d, ex, k2]⟩
      rw [e, fd_ctx b g _ hr', ih (by omega), Nat.pow_succ]
      omega
theorem fd_rkle (R : Nat → Nat) : ∀ n, fd_rk R n ≤ n := by
  intro n
  induction n with
  | zero => exact Nat.le_refl 0
  | succ n ih =>
    show (if R n = 0 then fd_rk R n else fd_rk R n + 1) ≤ n + 1
    by_cases h : R n = 0
    · rw [if_pos h]; omega
    · rw [if_neg h]; omega
end
section
/-! ===== ints by their bits ===== -/
theorem fd_bt {n i : Nat} (hi : i < 32) : bt (nI n) i = n.testBit i := by
  show (BitVec.ofNat 32 n).getLsbD i = _
  rw [BitVec.getLsbD_ofNat]
  simp [hi]
theorem fd_or (a b : Nat) : nI a ||| nI b = nI (a ||| b) := by
  apply b_ext
  intro i hi
  rw [b_or, fd_bt hi, fd_bt hi, fd_bt hi, Nat.testBit_or]
theorem fd_one {k i : Nat} (hk : k < 32) : bt ((1 : Int32) <<< (nI k &&& 31)) i = decide (k = i) := by
  unfold bt
  rw [nf_sh k hk, BitVec.getLsbD_twoPow, decide_eq_true hk, Bool.true_and]
theorem fd_one2 : ∀ k, k < 16 → (1 : Int32) <<< (nI k &&& 31) = nI (2 ^ k) := by decide +kernel
theorem fd_b1 (x : Int32) {k : Nat} (hk : k < 32) : (x &&& ((1 : Int32) <<< (nI k &&& 31))) = 0 ↔ bt x k = false := by
  constructor
  · intro h
    have t : bt (x &&& ((1 : Int32) <<< (nI k &&& 31))) k = bt 0 k := by rw [h]
    rw [b_and, fd_one hk, b_0, decide_eq_true rfl, Bool.and_true] at t
    exact t
  · intro h
    apply b_ext
    intro i _
    rw [b_and, fd_one hk, b_0]
    by_cases e : k = i
    · rw [← e, h, Bool.false_and]
    · rw [decide_eq_false e, Bool.and_false]
theorem fd_tb2 (q k : Nat) : nI (q / 2 ^ k) &&& 1 = nI (if q.testBit k = true then 1 else 0) := by
  show nI (q / 2 ^ k) &&& nI 1 = _
  rw [nx_and, Nat.and_one_is_mod, Nat.testBit_eq_decide_div_mod_eq]
  by_cases e : q / 2 ^ k % 2 = 1
  · rw [e, if_pos (decide_eq_true rfl)]
  · have e2 : q / 2 ^ k % 2 = 0 := by
      generalize q / 2 ^ k = z at e
      omega
    rw [e2, if_neg (by decide)]
theorem fd_sh {q k : Nat} (hq : q < 2 ^ 31) (hk : k < 32) : nI q >>> (nI k &&& 31) = nI (q / 2 ^ k) := pk_shrN hq _ k (s_l k hk)
theorem fd_bit {q k : Nat} (hq : q < 2 ^ 31) (hk : k < 32) : nI q >>> (nI k &&& 31) &&& 1 = nI (if q.testBit k = true then 1 else 0) := by rw [fd_sh hq hk, fd_tb2]
theorem fd_bz {t : Bool} : nI (if t = true then 1 else 0) = 0 ↔ t = false := by cases t <;> decide
theorem fd_bo {t : Bool} : nI (if t = true then 1 else 0) = 1 ↔ t = true := by cases t <;> decide
theorem fd_hp {q b : Nat} (hq : q < 65536) (hb : b < 8) : (nI q >>> (((8 : Int32) + nI b) &&& 31) &&& 1) = 0 ↔ q.testBit (8 + b) = false := by
  have e : (8 : Int32) + nI b = nI (8 + b) := nI_add 8 b
  rw [e, fd_bit (by omega) (by omega), fd_bz]
theorem fd_set {q : Nat} (hq : q < 65536) : nI q >>> ((8 : Int32) &&& 31) = nI (q / 256) := fd_sh (k := 8) (by omega) (by omega)
theorem fd_val (q : Nat) : nI q &&& 255 = nI (q % 256) := by
  show nI q &&& nI 255 = _
  rw [nx_and, show (255 : Nat) = 2 ^ 8 - 1 from rfl, Nat.and_two_pow_sub_one_eq_mod]
theorem fd_shl {s : Nat} (hs : s < 256) : nI s <<< ((8 : Int32) &&& 31) = nI (s * 256) := pk_shlN _ 8 (by decide) (by omega)
theorem fd_pack {s v : Nat} (hs : s < 256) (hv : v < 256) : (nI s <<< ((8 : Int32) &&& 31)) ||| nI v = nI (s * 256 + v) := by
  rw [fd_shl hs, fd_or]
  have t := Nat.two_pow_add_eq_or_of_lt (i := 8) (b := v) hv s
  rw [Nat.mul_comm] at t
  have t2 : s * 256 + v = s * 256 ||| v := t
  rw [t2]
/-! ===== a set of bits ===== -/
def fd_pc (g : Nat → Bool) : Nat → Nat
  | 0 => 0
  | n + 1 => if g n = true then fd_pc g n ||| 2 ^ n else fd_pc g n
theorem fd_pctb (g : Nat → Bool) (i : Nat) : ∀ n, (fd_pc g n).testBit i = (decide (i < n) && g i) := by
  intro n
  induction n with
  | zero => rw [show fd_pc g 0 = 0 from rfl, Nat.zero_testBit, decide_eq_false (by omega), Bool.false_and]
  | succ n ih =>
    have e0 : fd_pc g (n + 1) = if g n = true then fd_pc g n ||| 2 ^ n else fd_pc g n := rfl
    rcases Nat.lt_trichotomy i n with c | c | c
    · rw [decide_eq_true (show i < n + 1 by omega)]
      rw [decide_eq_true c] at ih
      by_cases h : g n = true
      · rw [e0, if_pos h, Nat.testBit_or, ih, Nat.testBit_two_pow_of_ne (by omega), Bool.or_false]
      · rw [e0, if_neg h, ih]
    · rw [decide_eq_true (show i < n + 1 by omega)]
      rw [decide_eq_false (by omega)] at ih
      by_cases h : g n = true
      · rw [e0, if_pos h, Nat.testBit_or, c, Nat.testBit_two_pow_self, h, Bool.or_true]; rfl
      · rw [e0, if_neg h, ih, c]
        cases hg : g n
        · rfl
        · exact absurd hg h
    · rw [decide_eq_false (show ¬ i < n + 1 by omega)]
      rw [decide_eq_false (show ¬ i < n by omega)] at ih
      by_cases h : g n = true
      · rw [e0, if_pos h, Nat.testBit_or, ih, Nat.testBit_two_pow_of_ne (by omega)]; rfl
      · rw [e0, if_neg h, ih]
theorem fd_pclt (g : Nat → Bool) (n : Nat) : fd_pc g n < 2 ^ n := by
  apply Nat.lt_pow_two_of_testBit
  intro i hi
  rw [fd_pctb, decide_eq_false (by omega), Bool.false_and]
theorem fd_pcg {g h : Nat → Bool} (n : Nat) (e : ∀ k, k < n → g k = h k) : fd_pc g n = fd_pc h n := by
  apply Nat.eq_of_testBit_eq
  intro i
  rw [fd_pctb, fd_pctb]
  by_cases hi : i < n
  · rw [e i hi]
  · rw [decide_eq_false hi, Bool.false_and, Bool.false_and]
theorem fd_kb (c : Nat → Bool) (i : Nat) (hi : i < 32) : bt (nI (fd_pc c 10)) i = (decide (i < 10) && c i) := by rw [fd_bt hi, fd_pctb]
theorem fd_kept (c : Nat → Bool) {k : Nat} (hk : k < 10) : (nI (fd_pc c 10) &&& ((1 : Int32) <<< (nI k &&& 31))) = 0 ↔ c k = false := by
  rw [fd_b1 _ (by omega), fd_kb c k (by omega), decide_eq_true hk, Bool.true_and]
theorem fd_chosen (c : Nat → Bool) (w : Int32) {k : Nat} (hk : k < 10) : ((nI (fd_pc c 10) &&& w) &&& ((1 : Int32) <<< (nI k &&& 31))) = 0 ↔ (c k && bt w k) = false := by
  rw [fd_b1 _ (by omega), b_and, fd_kb c k (by omega), decide_eq_true hk, Bool.true_and]
theorem fd_ktake (c : Nat → Bool) {k : Nat} (hk : k < 10) : nI (fd_pc c 10) ||| ((1 : Int32) <<< (nI k &&& 31)) = nI (fd_pc (fun j => if j = k then true else c j) 10) := by
  apply b_ext
  intro i hi
  rw [b_or, fd_kb c i hi, fd_kb _ i hi, fd_one (by omega)]
  by_cases e : k = i
  · rw [decide_eq_true e, if_pos e.symm, decide_eq_true (show i < 10 by omega), Bool.or_true]; rfl
  · rw [decide_eq_false e, if_neg (fun h => e h.symm), Bool.or_false]
theorem fd_kdrop (c : Nat → Bool) {k : Nat} (hk : k < 10) : nI (fd_pc c 10) &&& (((1 : Int32) <<< (nI k &&& 31)) ^^^ (-1)) = nI (fd_pc (fun j => if j = k then false else c j) 10) := by
  apply b_ext
  intro i hi
  rw [b_and, b_xor, fd_kb c i hi, fd_kb _ i hi, fd_one (by omega), b_m1 i hi]
  by_cases e : k = i
  · rw [decide_eq_true e, if_pos e.symm, Bool.and_false]; exact Bool.and_false _
  · rw [decide_eq_false e, if_neg (fun h => e h.symm)]; exact Bool.and_true _
theorem fd_1023 : ∀ i, i < 32 → bt 1023 i = decide (i < 10) := by decide +kernel
theorem fd_kfull (c : Nat → Bool) : nI (fd_pc c 10) = 1023 ↔ ∀ k, k < 10 → c k = true := by
  constructor
  · intro h k hk
    have t : bt (nI (fd_pc c 10)) k = bt 1023 k := by rw [h]
    rw [fd_kb c k (by omega), fd_1023 k (by omega), decide_eq_true hk, Bool.true_and] at t
    exact t
  · intro h
    apply b_ext
    intro i hi
    rw [fd_kb c i hi, fd_1023 i hi]
    by_cases e : i < 10
    · rw [h i e, Bool.and_true]
    · rw [decide_eq_false e, Bool.false_and]
theorem fd_notk {k j : Nat} (hk : k < 10) (hj : j < 10) : bt (((1 : Int32) <<< (nI k &&& 31)) ^^^ (-1)) j = bt (1023 &&& (((1 : Int32) <<< (nI k &&& 31)) ^^^ (-1))) j := by
  rw [b_and, fd_1023 j (by omega), decide_eq_true hj, Bool.true_and]
/-! ===== the table of known sums ===== -/
def fd_Tab (L : Nat → Prop) (T : Nat → Int32) : Prop := ∀ s, s < 256 → (T s = -1 ∧ ∀ x, L x → ¬ x / 256 = s) ∨ (∃ x, L x ∧ x / 256 = s ∧ T s = nI (x % 256))
theorem fd_m1 : (-1 : Int32) < 0 := by decide
theorem fd_Tneg {L : Nat → Prop} {T : Nat → Int32} (h : fd_Tab L T) {s : Nat} (hs : s < 256) : T s < 0 ↔ ¬ ∃ x, L x ∧ x / 256 = s := by
  rcases h s hs with ⟨e, n⟩ | ⟨x, hx, ex, e⟩
  · rw [e]
    exact ⟨fun _ => fun ⟨x, hx, ex⟩ => n x hx ex, fun _ => fd_m1⟩
  · rw [e]
    exact ⟨fun t => absurd t (nI_pos (by omega)), fun t => absurd ⟨x, hx, ex⟩ t⟩
theorem fd_Tval {L : Nat → Prop} {T : Nat → Int32} (h : fd_Tab L T) (hL : fd_cl L) (hc : fd_con L) {x : Nat} (hx : L x) (hl : x < 65536) : T (x / 256) = nI (x % 256) := by
  rcases h (x / 256) (by omega) with ⟨_, n⟩ | ⟨y, hy, ey, e⟩
  · exact absurd rfl (n x hx)
  · have t : (x ^^^ y) / 256 = 0 := by rw [fd_d, ey, Nat.xor_self]
    have t2 : x ^^^ y = 0 := hc _ (hL.2 _ _ hx hy) (by omega)
    rw [e, fd_x0 t2]
theorem fd_Tnone {L : Nat → Prop} {T : Nat → Int32} (h : fd_Tab L T) {s : Nat} (hs : s < 256) (hn : ¬ ∃ x, L x ∧ x / 256 = s) : T s = -1 := by
  rcases h s hs with ⟨e, _⟩ | ⟨x, hx, ex, _⟩
  · exact e
  · exact absurd ⟨x, hx, ex⟩ hn
def fd_g (T : Nat → Int32) (s : Nat) : Bool := decide (¬ T s < 0)
theorem fd_gi {L : Nat → Prop} {T : Nat → Int32} (h : fd_Tab L T) {s : Nat} (hs : s < 256) : fd_g T s = true ↔ ∃ x, L x ∧ x / 256 = s := by
  unfold fd_g
  rw [decide_eq_true_iff, fd_Tneg h hs]
  exact Classical.not_not
theorem fd_gt {T : Nat → Int32} {s : Nat} (h : ¬ T s < 0) : fd_g T s = true := decide_eq_true h
theorem fd_gf {T : Nat → Int32} {s : Nat} (h : T s < 0) : ¬ fd_g T s = true := by
  unfold fd_g
  rw [decide_eq_true_iff]
  exact fun t => t h
/-! ===== a new drop that agrees ===== -/
theorem fd_conx {L : Nat → Prop} (hL : fd_cl L) (hc : fd_con L) {q : Nat} (hq : ∀ y, L y → y / 256 = q / 256 → y = q) : fd_con (fun y => L y ∨ L (y ^^^ q)) := by
  intro x hx hl
  rcases hx with hx | hx
  · exact hc x hx hl
  · have t : (x ^^^ q) / 256 = q / 256 := by rw [fd_d, Nat.div_eq_of_lt hl, Nat.zero_xor]
    have t2 := hq _ hx t
    have t3 := fd_xc x q
    rw [t2, Nat.xor_self] at t3
    exact t3.symm
end
section
/-! ===== what rows and table say alike ===== -/
theorem fd_q {s v : Nat} (hv : v < 256) : (s * 256 + v) / 256 = s ∧ (s * 256 + v) % 256 = v := by omega
theorem fd_redlt {R : Nat → Nat} {L : Nat → Prop} (hE : fd_E R L) (hL : fd_cl L) (hb : ∀ x, L x → x < 65536) {q : Nat} (hq : q < 65536) : fd_red R 8 q < 65536 := by
  obtain ⟨y, hy, e⟩ := fd_red1 hE hL 8 q (by omega)
  rw [e]
  exact Nat.xor_lt_two_pow (n := 16) hq (hb y hy)
theorem fd_same {R : Nat → Nat} {L : Nat → Prop} {T : Nat → Int32} (hE : fd_E R L) (hL : fd_cl L) (hb : ∀ x, L x → x < 65536) (hT : fd_Tab L T) {s : Nat} (hs : s < 256) : fd_red R 8 (s * 256) < 256 ↔ fd_g T s = true := by
  obtain ⟨y, hy, _, h1, h2⟩ := fd_redL hE hL hb (s * 256)
  have es : s * 256 / 256 = s := by omega
  rw [es] at h1 h2
  rw [fd_gi hT hs]
  exact ⟨fun t => ⟨y, hy, h1 t⟩, h2⟩
theorem fd_sameval {R : Nat → Nat} {L : Nat → Prop} {T : Nat → Int32} (hE : fd_E R L) (hL : fd_cl L) (hb : ∀ x, L x → x < 65536) (hT : fd_Tab L T) (hc : fd_con L) {s : Nat} (hs : s < 256) : (fd_red R 8 (s * 256) < 256 → T s = nI (fd_red R 8 (s * 256) % 256)) ∧ (¬ fd_red R 8 (s * 256) < 256 → T s = -1) := by
  obtain ⟨y, hy, e, h1, h2⟩ := fd_redL hE hL hb (s * 256)
  have es : s * 256 / 256 = s := by omega
  have em : s * 256 % 256 = 0 := by omega
  rw [es] at h1 h2
  constructor
  · intro t
    have t2 := fd_Tval hT hL hc hy (hb y hy)
    rw [h1 t] at t2
    rw [t2, e, fd_m, em, Nat.zero_xor]
  · intro t
    exact fd_Tnone hT hs (fun z => t (h2 z))
theorem fd_samew {R : Nat → Nat} {L : Nat → Prop} {T : Nat → Int32} (hE : fd_E R L) (hL : fd_cl L) (hb : ∀ x, L x → x < 65536) (hT : fd_Tab L T) {w s : Nat} (hw : w < 256) (hs : s < 256) : fd_red (fd_add R 8 (w * 256)) 8 (s * 256) < 256 ↔ (fd_g T s = true ∨ fd_g T (s ^^^ w) = true) := by
  have hE' := fd_addE hE hL 8 (w * 256) (by omega) (show w * 256 < 65536 by omega)
  have hL' := fd_clx hL (w * 256)
  have hb' : ∀ x, (L x ∨ L (x ^^^ (w * 256))) → x < 65536 := by
    rintro x (h | h)
    · exact hb x h
    · have t := Nat.xor_lt_two_pow (n := 16) (hb _ h) (show w * 256 < 65536 by omega)
      rw [fd_xc] at t
      exact t
  obtain ⟨y, hy, _, h1, h2⟩ := fd_redL hE' hL' hb' (s * 256)
  have es : s * 256 / 256 = s := by omega
  have ew : w * 256 / 256 = w := by omega
  have hsw : s ^^^ w < 256 := Nat.xor_lt_two_pow (n := 8) hs hw
  rw [es] at h1 h2
  rw [fd_gi hT hs, fd_gi hT hsw]
  constructor
  · intro t
    have ey := h1 t
    rcases hy with hy | hy
    · exact Or.inl ⟨y, hy, ey⟩
    · exact Or.inr ⟨_, hy, by rw [fd_d, ey, ew]⟩
  · intro t
    apply h2
    rcases t with ⟨x, hx, ex⟩ | ⟨x, hx, ex⟩
    · exact ⟨x, Or.inl hx, ex⟩
    · refine ⟨x ^^^ (w * 256), Or.inr ?_, ?_⟩
      · rw [fd_xc]; exact hx
      · rw [fd_d, ex, ew, fd_xc]
theorem fd_size {R : Nat → Nat} {L : Nat → Prop} {T : Nat → Int32} (hE : fd_E R L) (hL : fd_cl L) (hT : fd_Tab L T) : fd_ct (fd_g T) 256 = 2 ^ fd_rk R 8 :=
  fd_count hE hL (fun s hs => fd_gi hT hs) 8 (Nat.le_refl 8)
theorem fd_takeI {R : Nat → Nat} {L : Nat → Prop} {T : Nat → Int32} (hE : fd_E R L) (hL : fd_cl L) (hb : ∀ x, L x → x < 65536) (hT : fd_Tab L T) (hc : fd_con L) {s v : Nat} (hs : s < 256) (hv : v < 256) : (fd_red R 8 (s * 256 + v) / 256 = 0 ∧ ¬ fd_red R 8 (s * 256 + v) % 256 = 0) ↔ (¬ T s < 0 ∧ ¬ T s = nI v) := by
  obtain ⟨y, hy, e, h1, h2⟩ := fd_redL hE hL hb (s * 256 + v)
  have eq := fd_q (s := s) hv
  rw [eq.1] at h1 h2
  by_cases t : fd_red R 8 (s * 256 + v) < 256
  · have t2 := fd_Tval hT hL hc hy (hb y hy)
    rw [h1 t] at t2
    have em : fd_red R 8 (s * 256 + v) % 256 = v ^^^ y % 256 := by rw [e, fd_m, eq.2]
    rw [t2, em]
    constructor
    · rintro ⟨_, n⟩
      refine ⟨nI_pos (by omega), fun z => n ?_⟩
      rw [nI_eq (by omega) (by omega)] at z
      rw [z, Nat.xor_self]
    · rintro ⟨_, n⟩
      refine ⟨Nat.div_eq_of_lt t, fun z => n ?_⟩
      rw [fd_x0 z]
  · constructor
    · rintro ⟨z, _⟩
      exact absurd (by omega) t
    · rintro ⟨z, _⟩
      exact absurd ((fd_Tneg hT hs).mpr (fun w => t (h2 w))) z
theorem fd_takeC {L : Nat → Prop} {T : Nat → Int32} (hL : fd_cl L) (hb : ∀ x, L x → x < 65536) (hT : fd_Tab L T) (hc : fd_con L) {s v : Nat} (hv : v < 256) (h : ¬ (¬ T s < 0 ∧ ¬ T s = nI v)) : fd_con (fun y => L y ∨ L (y ^^^ (s * 256 + v))) := by
  refine fd_conx hL hc (fun y hy ey => ?_)
  have eq := fd_q (s := s) hv
  rw [eq.1] at ey
  have t2 := fd_Tval hT hL hc hy (hb y hy)
  rw [ey] at t2
  by_cases z : T s = nI v
  · rw [t2, nI_eq (by omega) (by omega)] at z
    omega
  · refine absurd ⟨?_, z⟩ h
    rw [t2]
    exact nI_pos (by omega)
end
section
/-! ===== the reference's table, code by code ===== -/
def fd_OK (c : Nat → Bool) (m : Nat) : Prop := ∀ k, k < 10 → m.testBit k = true → c k = true
def fd_TM (p : Nat → Nat) (c : Nat → Bool) (m : Nat) (T : Nat → Int32) : Prop := ∀ s, s < 256 → (T s = -1 ∧ ∀ j, j < m → fd_OK c j → ¬ fd_cx p j 10 / 256 = s) ∨ (∃ j, j < m ∧ fd_OK c j ∧ fd_cx p j 10 / 256 = s ∧ T s = nI (fd_cx p j 10 % 256))
theorem fd_TM0 {p : Nat → Nat} {c : Nat → Bool} {T : Nat → Int32} (h : ∀ s, s < 256 → T s = -1) : fd_TM p c 0 T := fun s hs => Or.inl ⟨h s hs, fun j hj => absurd hj (by omega)⟩
theorem fd_TMs {p : Nat → Nat} {c : Nat → Bool} {m : Nat} {T : Nat → Int32} (h : fd_TM p c m T) (hn : ¬ fd_OK c m) : fd_TM p c (m + 1) T := by
  intro s hs
  rcases h s hs with ⟨e, n⟩ | ⟨j, hj, ho, ex, e⟩
  · refine Or.inl ⟨e, fun j hj ho => ?_⟩
    by_cases z : j = m
    · exact absurd (z ▸ ho) hn
    · exact n j (by omega) ho
  · exact Or.inr ⟨j, by omega, ho, ex, e⟩
theorem fd_TMu {p : Nat → Nat} {c : Nat → Bool} {m : Nat} {T : Nat → Int32} (h : fd_TM p c m T) (hm : fd_OK c m) : fd_TM p c (m + 1) (upd T (fd_cx p m 10 / 256) (nI (fd_cx p m 10 % 256))) := by
  intro s hs
  by_cases z : s = fd_cx p m 10 / 256
  · exact Or.inr ⟨m, by omega, hm, z.symm, by rw [z, pk_us]⟩
  · rw [pk_un z]
    rcases h s hs with ⟨e, n⟩ | ⟨j, hj, ho, ex, e⟩
    · refine Or.inl ⟨e, fun j hj ho => ?_⟩
      by_cases y : j = m
      · rw [y]; exact fun w => z w.symm
      · exact n j (by omega) ho
    · exact Or.inr ⟨j, by omega, ho, ex, e⟩
theorem fd_TMe {p : Nat → Nat} {c : Nat → Bool} {T : Nat → Int32} (h : fd_TM p c 1024 T) : fd_Tab (fd_sp p c 10) T := by
  intro s hs
  rcases h s hs with ⟨e, n⟩ | ⟨j, _, ho, ex, e⟩
  · refine Or.inl ⟨e, fun x hx => ?_⟩
    obtain ⟨m, hm, ho, em⟩ := fd_cxe 10 x hx
    rw [em]
    exact n m hm ho
  · exact Or.inr ⟨_, fd_cxs 10 ho, ex, e⟩
theorem fd_mask {m : Nat} (hm : m < 1024) (w : Int32) : (nI m &&& (w ^^^ (-1))) = 0 ↔ ∀ k, k < 10 → m.testBit k = true → bt w k = true := by
  constructor
  · intro h k hk ht
    have t : bt (nI m &&& (w ^^^ (-1))) k = bt 0 k := by rw [h]
    rw [b_and, b_xor, b_0, fd_bt (by omega), b_m1 k (by omega), ht] at t
    revert t
    cases bt w k <;> decide
  · intro h
    apply b_ext
    intro i hi
    rw [b_and, b_xor, b_0, fd_bt hi, b_m1 i hi]
    by_cases e : i < 10
    · cases ht : m.testBit i
      · rfl
      · rw [h i e ht]; rfl
    · have h2 := fd_pw 10 i (by omega)
      rw [Nat.testBit_lt_two_pow (show m < 2 ^ i from Nat.lt_of_lt_of_le hm h2), Bool.false_and]
def fd_ok (a : Bool) (c : Nat → Bool) (m : Nat) : Nat → Bool
  | 0 => a
  | k + 1 => fd_ok a c m k && (!m.testBit k || c k)
theorem fd_oki (a : Bool) (c : Nat → Bool) (m : Nat) : ∀ n, fd_ok a c m n = true ↔ (a = true ∧ ∀ k, k < n → m.testBit k = true → c k = true) := by
  intro n
  induction n with
  | zero => exact ⟨fun h => ⟨h, fun k hk => absurd hk (by omega)⟩, fun h => h.1⟩
  | succ n ih =>
    have e0 : fd_ok a c m (n + 1) = (fd_ok a c m n && (!m.testBit n || c n)) := rfl
    rw [e0, Bool.and_eq_true, ih]
    constructor
    · rintro ⟨⟨h1, h2⟩, h3⟩
      refine ⟨h1, fun k hk ht => ?_⟩
      by_cases e : k = n
      · rw [e] at ht ⊢
        rw [ht] at h3
        exact h3
      · exact h2 k (by omega) ht
    · rintro ⟨h1, h2⟩
      refine ⟨⟨h1, fun k hk => h2 k (by omega)⟩, ?_⟩
      cases ht : m.testBit n
      · rfl
      · rw [h2 n (by omega) ht]; rfl
theorem fd_okc {c : Nat → Bool} {w : Int32} {m : Nat} (hm : m < 1024) : fd_ok (decide ((nI m &&& (w ^^^ (-1))) = 0)) c m 10 = true ↔ fd_OK (fun k => c k && bt w k) m := by
  rw [fd_oki, decide_eq_true_iff, fd_mask hm w]
  constructor
  · rintro ⟨h1, h2⟩ k hk ht
    show (c k && bt w k) = true
    rw [h1 k hk ht, h2 k hk ht]; rfl
  · intro h
    refine ⟨fun k hk ht => ?_, fun k hk ht => ?_⟩
    · have t : (c k && bt w k) = true := h k hk ht
      rw [Bool.and_eq_true] at t
      exact t.2
    · have t : (c k && bt w k) = true := h k hk ht
      rw [Bool.and_eq_true] at t
      exact t.1
/-! ===== the best set ===== -/
def fd_best (f : Nat → Nat) : Nat → Nat
  | 0 => 1
  | n + 1 => if f (fd_best f n) < f (n + 2) then n + 2 else fd_best f n
theorem fd_bestle (f : Nat → Nat) : ∀ n, 1 ≤ fd_best f n ∧ fd_best f n ≤ n + 1 := by
  intro n
  induction n with
  | zero => exact ⟨Nat.le_refl 1, Nat.le_refl 1⟩
  | succ n ih =>
    have e0 : fd_best f (n + 1) = if f (fd_best f n) < f (n + 2) then n + 2 else fd_best f n := rfl
    by_cases h : f (fd_best f n) < f (n + 2)
    · rw [e0, if_pos h]; omega
    · rw [e0, if_neg h]; omega
end
section
/-! ===== ranges ===== -/
theorem fd_ix (n : Nat) (hn : n + 1 < 2 ^ 31) (x : Int32) : x < 0 ∨ (¬ x < 0 ∧ nI (n + 1) ≤ x ∧ nI n < x) ∨ (∃ j, j < n + 1 ∧ x = nI j ∧ ¬ x < 0 ∧ ¬ nI (n + 1) ≤ x ∧ ¬ nI n < x) := by
  by_cases h : x < 0
  · exact Or.inl h
  · obtain ⟨j, hj, rfl⟩ := nI_of h
    rw [nI_leI hn hj, nI_ltI (show n < 2 ^ 31 by omega) hj]
    by_cases c : j < n + 1
    · exact Or.inr (Or.inr ⟨j, c, rfl, h, by omega, by omega⟩)
    · exact Or.inr (Or.inl ⟨h, by omega, by omega⟩)
theorem fd_r1 {x : Int32} (h0 : ¬ x < 1) (h1 : ¬ 255 < x) : ∃ s, 1 ≤ s ∧ s < 256 ∧ x = nI s := by
  have h : ¬ x < 0 := fun z => h0 (Int32.lt_trans z (by decide))
  obtain ⟨j, hj, rfl⟩ := nI_of h
  have t0 : ¬ nI j < nI 1 := h0
  have t1 : ¬ nI 255 < nI j := h1
  rw [nI_ltI hj (by decide)] at t0
  rw [nI_ltI (by decide) hj] at t1
  exact ⟨j, by omega, by omega, rfl⟩
theorem fd_r0 {x : Int32} (h0 : ¬ x < 0) (h1 : ¬ 255 < x) : ∃ s, s < 256 ∧ x = nI s := by
  obtain ⟨j, hj, rfl⟩ := nI_of h0
  have t1 : ¬ nI 255 < nI j := h1
  rw [nI_ltI (by decide) hj] at t1
  exact ⟨j, by omega, rfl⟩
theorem fd_p8 {i : Nat} (hi : i < 8) : 2 ^ i < 256 := Nat.pow_lt_pow_right (m := i) (n := 8) (by decide) hi
theorem fd_nt {t : Bool} (h : ¬ t = true) : t = false := by cases t <;> first | rfl | exact absurd rfl h
theorem fd_nf {t : Bool} (h : t = true) : ¬ t = false := by rw [h]; decide
theorem fd_redb {R : Nat → Nat} (hR : ∀ b, b < 8 → R b < 65536) : ∀ b q, b ≤ 8 → q < 65536 → fd_red R b q < 65536 := by
  intro b
  induction b with
  | zero => exact fun q _ hq => hq
  | succ b ih =>
    intro q hb hq
    have e0 : fd_red R (b + 1) q = fd_red R b (if q.testBit (8 + b) = true then q ^^^ R b else q) := rfl
    rw [e0]
    by_cases t : q.testBit (8 + b) = true
    · rw [if_pos t]
      exact ih _ (by omega) (Nat.xor_lt_two_pow (n := 16) hq (hR b (by omega)))
    · rw [if_neg t]
      exact ih _ (by omega) hq
/-! ===== the component's walks ===== -/
def fx_R (ar : Nat → Int32) (R : Nat → Nat) : Prop := ∀ b, b < 8 → ar b = nI (R b) ∧ R b < 65536
theorem fx_hp1 {post : Int32 → Prop} {q b : Nat} (hq : q < 65536) (hb : b < 8) (t : q.testBit (8 + b) = true) (h : post 1) : wpX_hasPiece post (nI q) (nI b) :=
  br_f (fun z => fd_nf t ((fd_hp hq hb).mp z)) h
theorem fx_hp0 {post : Int32 → Prop} {q b : Nat} (hq : q < 65536) (hb : b < 8) (t : ¬ q.testBit (8 + b) = true) (h : post 0) : wpX_hasPiece post (nI q) (nI b) :=
  br_t ((fd_hp hq hb).mpr (fd_nt t)) h
theorem fx_red_l {post : Int32 → Prop} {fk : Int32} {ap ar : Nat → Int32} {R : Nat → Nat} (hR : fx_R ar R) : ∀ b q, b ≤ 8 → q < 65536 → post (nI (fd_red R b q)) → wX_reduce_5 post fk ap ar (b + 1) (nI q) (nI b + (-1)) := by
  intro b
  induction b with
  | zero =>
    intro q _ _ h
    exact br_t (by decide) h
  | succ b ih =>
    intro q hb hq h
    have e0 : fd_red R (b + 1) q = fd_red R b (if q.testBit (8 + b) = true then q ^^^ R b else q) := rfl
    rw [e0] at h
    rw [pk_m1 b]
    have hn : ¬ nI b < 0 := nI_pos (by omega)
    have hin : vp_in (nI b) 8 := vp_in_nI (by omega) (by decide)
    refine br_f hn ?_
    by_cases t : q.testBit (8 + b) = true
    · rw [if_pos t] at h
      refine fx_hp1 hq (by omega) t (br_f (by decide) ⟨hin, fun y ey z ez => ?_⟩)
      rw [ez, ey, nI_clamp (by omega), (hR b (by omega)).1, nx_xor]
      exact ih _ (by omega) (Nat.xor_lt_two_pow (n := 16) hq (hR b (by omega)).2) h
    · rw [if_neg t] at h
      refine fx_hp0 hq (by omega) t (br_t rfl (fun z ez => ?_))
      rw [ez]
      exact ih q (by omega) hq h
theorem fx_7 : (7 : Int32) = nI 8 + (-1) := by decide
theorem fx_red {post : Int32 → Prop} {fk : Int32} {ap ar : Nat → Int32} {R : Nat → Nat} (hR : fx_R ar R) {q : Nat} (hq : q < 65536) (h : post (nI (fd_red R 8 q))) : wpX_reduce post (fk, ap, ar) (nI q) := by
  refine ⟨9, ?_⟩
  rw [fx_7]
  exact fx_red_l hR 8 q (by omega) hq h
theorem fx_add_l {post : SX → Prop} {fk : Int32} {ap ar : Nat → Int32} {R : Nat → Nat} (hR : fx_R ar R) : ∀ b q, b ≤ 8 → q < 65536 → (∀ ar' : Nat → Int32, (∀ j, j < 8 → ar' j = nI (fd_add R b q j)) → post (fk, ap, ar')) → wX_addRow_5 post fk ap ar (b + 1) (nI q) (nI b + (-1)) := by
  intro b
  induction b with
  | zero =>
    intro q _ _ h
    exact br_t (by decide) (h ar (fun j hj => (hR j hj).1))
  | succ b ih =>
    intro q hb hq h
    have e0 : fd_add R (b + 1) q = if q.testBit (8 + b) = true then (if R b = 0 then (fun j => if j = b then q else R j) else fd_add R b (q ^^^ R b)) else fd_add R b q := rfl
    rw [e0] at h
    rw [pk_m1 b]
    have hn : ¬ nI b < 0 := nI_pos (by omega)
    have hin : vp_in (nI b) 8 := vp_in_nI (by omega) (by decide)
    have hcl : (nI b).toNatClampNeg = b := nI_clamp (by omega)
    have hrb := hR b (by omega)
    refine br_f hn ?_
    by_cases t : q.testBit (8 + b) = true
    · rw [if_pos t] at h
      by_cases z0 : R b = 0
      · rw [if_pos z0] at h
        refine fx_hp1 hq (by omega) t (br_f (by decide) ⟨hin, br_t ?_ ⟨hin, fun a ea => ?_⟩⟩)
        · rw [hcl, hrb.1, z0]
          rfl
        · rw [ea, hcl]
          refine h _ (fun j hj => ?_)
          by_cases e : j = b
          · rw [e, pk_us]
            rw [if_pos rfl]
          · rw [pk_un e]
            rw [if_neg e]
            exact (hR j hj).1
      · rw [if_neg z0] at h
        refine fx_hp1 hq (by omega) t (br_f (by decide) ⟨hin, br_f ?_ ⟨hin, fun y ey z ez => ?_⟩⟩)
        · rw [hcl, hrb.1]
          exact nI_ne0 (by omega) (by omega)
        · rw [ez, ey, hcl, hrb.1, nx_xor]
          exact ih _ (by omega) (Nat.xor_lt_two_pow (n := 16) hq hrb.2) h
    · rw [if_neg t] at h
      refine fx_hp0 hq (by omega) t (br_t rfl (fun z ez => ?_))
      rw [ez]
      exact ih q (by omega) hq h
theorem fx_add {post : SX → Prop} {fk : Int32} {ap ar : Nat → Int32} {R : Nat → Nat} (hR : fx_R ar R) {q : Nat} (hq : q < 65536) (h : ∀ ar' : Nat → Int32, (∀ j, j < 8 → ar' j = nI (fd_add R 8 q j)) → post (fk, ap, ar')) : wpX_addRow post (fk, ap, ar) (nI q) := by
  refine ⟨9, ?_⟩
  rw [fx_7]
  exact fx_add_l hR 8 q (by omega) hq h
/-! ===== the rows of all chosen drops ===== -/
def fd_cc (c : Nat → Bool) (w : Int32) : Nat → Bool := fun k => c k && bt w k
theorem fx_rowsR {p : Nat → Nat} (hp : ∀ k, p k < 65536) (c : Nat → Bool) (n : Nat) {ar : Nat → Int32} (h : ∀ j, j < 8 → ar j = nI (fd_rows p c n j)) : fx_R ar (fd_rows p c n) := fun b hb => ⟨h b hb, fd_rowlt (fd_rowsE c hp n) hb⟩
theorem fx_fill_l {post : SX → Prop} {c : Nat → Bool} {p : Nat → Nat} {ap : Nat → Int32} (w : Int32) (hp : ∀ k, p k < 65536) (hap : ∀ k, k < 10 → ap k = nI (p k)) (h : ∀ ar' : Nat → Int32, (∀ j, j < 8 → ar' j = nI (fd_rows p (fd_cc c w) 10 j)) → post (nI (fd_pc c 10), ap, ar')) : ∀ d k (ar : Nat → Int32), k + d = 10 → (∀ j, j < 8 → ar j = nI (fd_rows p (fd_cc c w) k j)) → wX_fillRows_23 post w (d + 1) (nI k) (nI (fd_pc c 10)) ap ar := by
  intro d
  induction d with
  | zero =>
    intro k ar hk hr
    have e : k = 10 := by omega
    subst e
    exact br_t (by decide) (h ar hr)
  | succ d ih =>
    intro k ar hk hr
    have hk10 : k < 10 := by omega
    refine br_f (nI_ge (b := 10) hk10 (by decide)) ?_
    by_cases hc : fd_cc c w k = true
    · refine br_f (fun z => fd_nf hc ((fd_chosen c w hk10).mp z)) ⟨vp_in_nI hk10 (by decide), ?_⟩
      rw [nI_clamp (by omega), hap k hk10]
      refine fx_add (fx_rowsR hp (fd_cc c w) k hr) (hp k) (fun ar' hr' => ?_)
      intro y ey
      rw [ey, nI_1]
      refine ih (k + 1) ar' (by omega) (fun j hj => ?_)
      have e : fd_rows p (fd_cc c w) (k + 1) = fd_add (fd_rows p (fd_cc c w) k) 8 (p k) := if_pos hc
      rw [hr' j hj, e]
    · refine br_t ((fd_chosen c w hk10).mpr (fd_nt hc)) (fun y ey => ?_)
      rw [ey, nI_1]
      refine ih (k + 1) ar (by omega) (fun j hj => ?_)
      have e : fd_rows p (fd_cc c w) (k + 1) = fd_rows p (fd_cc c w) k := if_neg hc
      rw [hr j hj, e]
theorem fx_fill {post : SX → Prop} {c : Nat → Bool} {p : Nat → Nat} {ap ar : Nat → Int32} (w : Int32) (hp : ∀ k, p k < 65536) (hap : ∀ k, k < 10 → ap k = nI (p k)) (h : ∀ ar' : Nat → Int32, (∀ j, j < 8 → ar' j = nI (fd_rows p (fd_cc c w) 10 j)) → post (nI (fd_pc c 10), ap, ar')) : wpX_fillRows post (nI (fd_pc c 10), ap, ar) w := by
  have L : ∀ d i (ar : Nat → Int32), i + d = 8 → (∀ j, j < i → ar j = 0) → wX_fillRows_2 post w (nI (fd_pc c 10)) (d + 1) (nI i) ap ar := by
    intro d
    induction d with
    | zero =>
      intro i ar hi hz
      have e : i = 8 := by omega
      subst e
      exact br_t (by decide) ⟨11, fx_fill_l w hp hap h 10 0 ar (by omega) hz⟩
    | succ d ih =>
      intro i ar hi hz
      refine br_f (nI_ge (b := 8) (by omega) (by decide)) ⟨vp_in_nI (by omega) (by decide), fun a ea y ey => ?_⟩
      rw [ea, ey, nI_1, nI_clamp (by omega)]
      refine ih (i + 1) _ (by omega) (fun j hj => ?_)
      by_cases e : j = i
      · rw [e, pk_us]
      · rw [pk_un e]
        exact hz j (by omega)
  exact ⟨9, L 8 0 ar (by omega) (fun j hj => absurd hj (by omega))⟩
end
section
/-! ===== the component's smaller methods ===== -/
theorem fx_pack {post : Int32 → Prop} {s v : Nat} (hs : s < 256) (hv : v < 256) (h : post (nI (s * 256 + v))) : wpX_pack post (nI s) (nI v) := by
  unfold wpX_pack
  rw [fd_pack hs hv]
  exact h
theorem fx_pack0 {post : Int32 → Prop} {s : Nat} (hs : s < 256) (h : post (nI (s * 256))) : wpX_pack post (nI s) 0 := fx_pack (v := 0) hs (by decide) h
theorem fx_setOf {post : Int32 → Prop} {q : Nat} (hq : q < 65536) (h : post (nI (q / 256))) : wpX_setOf post (nI q) := by
  unfold wpX_setOf
  rw [fd_set hq]
  exact h
theorem fx_valueOf {post : Int32 → Prop} {q : Nat} (h : post (nI (q % 256))) : wpX_valueOf post (nI q) := by
  unfold wpX_valueOf
  rw [fd_val q]
  exact h
theorem fd_dz {q : Nat} (hq : q < 65536) : nI (q / 256) = 0 ↔ q < 256 := by
  have t : nI (q / 256) = nI 0 ↔ q / 256 = 0 := nI_eq (by omega) (by decide)
  rw [nI_0] at t
  rw [t]
  omega
theorem fd_mz (q : Nat) : nI (q % 256) = 0 ↔ q % 256 = 0 := by
  have t : nI (q % 256) = nI 0 ↔ q % 256 = 0 := nI_eq (by omega) (by decide)
  rw [nI_0] at t
  exact t
def fx_g (R : Nat → Nat) (i : Nat) : Bool := decide (fd_red R 8 (2 ^ i * 256) < 256)
theorem fx_pieces {post : Int32 → Prop} {fk : Int32} {ap ar : Nat → Int32} {R : Nat → Nat} (hR : fx_R ar R) (h : post (nI (fd_pc (fx_g R) 8))) : wpX_piecesInRows post (fk, ap, ar) := by
  have L : ∀ d i, i + d = 8 → wX_piecesInRows_4 post fk ap ar (d + 1) (nI (fd_pc (fx_g R) i)) (nI i) := by
    intro d
    induction d with
    | zero =>
      intro i hi
      have e : i = 8 := by omega
      subst e
      exact br_t (by decide) h
    | succ d ih =>
      intro i hi
      have hi8 : i < 8 := by omega
      have h2 := fd_p8 hi8
      refine br_f (nI_ge (b := 8) hi8 (by decide)) ?_
      rw [fd_one2 i (by omega)]
      refine fx_pack0 h2 (fx_red hR (by omega) ?_)
      have hr := fd_redb (fun b hb => (hR b hb).2) 8 (2 ^ i * 256) (by omega) (by omega)
      refine fx_setOf hr ?_
      by_cases t : fd_red R 8 (2 ^ i * 256) < 256
      · refine br_t ((fd_dz hr).mpr t) (fun y ey z ez => ?_)
        have e : fd_pc (fx_g R) (i + 1) = fd_pc (fx_g R) i ||| 2 ^ i := if_pos (decide_eq_true t)
        rw [ez, ey, nI_1, fd_or, ← e]
        exact ih (i + 1) (by omega)
      · refine br_f (fun z => t ((fd_dz hr).mp z)) (fun y ey => ?_)
        have e : fd_pc (fx_g R) (i + 1) = fd_pc (fx_g R) i := if_neg (by unfold fx_g; rw [decide_eq_false t]; decide)
        rw [ey, nI_1, ← e]
        exact ih (i + 1) (by omega)
  exact ⟨9, L 8 0 (by omega)⟩
theorem fx_rank {post : Int32 → SX → Prop} {c : Nat → Bool} {p : Nat → Nat} {ap ar : Nat → Int32} (w : Int32) (hp : ∀ k, p k < 65536) (hap : ∀ k, k < 10 → ap k = nI (p k)) (h : ∀ ar' : Nat → Int32, post (nI (fd_rk (fd_rows p (fd_cc c w) 10) 8)) (nI (fd_pc c 10), ap, ar')) : wpX_rank post (nI (fd_pc c 10), ap, ar) w := by
  unfold wpX_rank
  dsimp only
  refine fx_fill w hp hap (fun ar' hr => ?_)
  have L : ∀ d i, i + d = 8 → wX_rank_9 post (nI (fd_pc c 10)) ap ar' (d + 1) (nI (fd_rk (fd_rows p (fd_cc c w) 10) i)) (nI i) := by
    intro d
    induction d with
    | zero =>
      intro i hi
      have e : i = 8 := by omega
      subst e
      exact br_t (by decide) (h ar')
    | succ d ih =>
      intro i hi
      have hi8 : i < 8 := by omega
      have hR := fx_rowsR hp (fd_cc c w) 10 hr i hi8
      have e0 : fd_rk (fd_rows p (fd_cc c w) 10) (i + 1) = if fd_rows p (fd_cc c w) 10 i = 0 then fd_rk (fd_rows p (fd_cc c w) 10) i else fd_rk (fd_rows p (fd_cc c w) 10) i + 1 := rfl
      refine br_f (nI_ge (b := 8) hi8 (by decide)) ⟨vp_in_nI hi8 (by decide), ?_⟩
      rw [nI_clamp (by omega), hR.1]
      by_cases z : fd_rows p (fd_cc c w) 10 i = 0
      · rw [if_pos z] at e0
        refine br_t (by rw [z]; rfl) (fun y ey => ?_)
        rw [ey, nI_1, ← e0]
        exact ih (i + 1) (by omega)
      · rw [if_neg z] at e0
        refine br_f (nI_ne0 (by omega) (by omega)) (fun y ey x ex => ?_)
        rw [ex, ey, nI_1, nI_1, ← e0]
        exact ih (i + 1) (by omega)
  exact ⟨9, L 8 0 (by omega)⟩
theorem fx_count {post : Int32 → Prop} {g : Nat → Bool} (h : post (nI (fd_ct g 8))) : wpX_countBits post (nI (fd_pc g 8)) := by
  have hm : fd_pc g 8 < 256 := fd_pclt g 8
  have L : ∀ d i, i + d = 8 → wX_countBits_4 post (nI (fd_pc g 8)) (d + 1) (nI (fd_ct g i)) (nI i) := by
    intro d
    induction d with
    | zero =>
      intro i hi
      have e : i = 8 := by omega
      subst e
      exact br_t (by decide) h
    | succ d ih =>
      intro i hi
      have hi8 : i < 8 := by omega
      have e0 : fd_ct g (i + 1) = if g i = true then fd_ct g i + 1 else fd_ct g i := rfl
      refine br_f (nI_ge (b := 8) hi8 (by decide)) (fun y ey x ex => ?_)
      rw [fd_bit (by omega) (by omega), fd_pctb, decide_eq_true hi8, Bool.true_and, nI_add] at ey
      rw [ex, ey, nI_1]
      have e : fd_ct g i + (if g i = true then 1 else 0) = fd_ct g (i + 1) := by
        rw [e0]
        by_cases z : g i = true
        · rw [if_pos z, if_pos z]
        · rw [if_neg z, if_neg z, Nat.add_zero]
      rw [e]
      exact ih (i + 1) (by omega)
  exact ⟨9, L 8 0 (by omega)⟩
def fx_kw (p : Nat → Nat) (c : Nat → Bool) (s : Nat) : Nat := fd_ct (fx_g (fd_add (fd_rows p c 10) 8 (s * 256))) 8
theorem fx_known {post : Int32 → SX → Prop} {c : Nat → Bool} {p : Nat → Nat} {ap ar : Nat → Int32} {s : Nat} (h1 : 1 ≤ s) (hs : s < 256) (hp : ∀ k, p k < 65536) (hap : ∀ k, k < 10 → ap k = nI (p k)) (h : ∀ ar' : Nat → Int32, post (nI (fx_kw p (fd_cc c 1023) s)) (nI (fd_pc c 10), ap, ar')) : wpX_knownWith post (nI (fd_pc c 10), ap, ar) (nI s) := by
  unfold wpX_knownWith
  dsimp only
  refine br_f (nI_nlt (b := 1) h1 (by omega)) (br_f (nI_nlt (a := 255) (show s ≤ 255 by omega) (by decide)) (br_f (by decide) ?_))
  refine fx_fill 1023 hp hap (fun ar' hr => ?_)
  refine fx_pack0 hs ?_
  have hq : s * 256 < 65536 := by omega
  refine fx_add (fx_rowsR hp _ 10 hr) hq (fun ar2 hr2 => ?_)
  have hR : fx_R ar2 (fd_add (fd_rows p (fd_cc c 1023) 10) 8 (s * 256)) := fun b hb => ⟨hr2 b hb, fd_rowlt (fd_addE (fd_rowsE _ hp 10) (fd_spcl p _ 10) 8 (s * 256) (by omega) hq) hb⟩
  refine fx_pieces hR (fx_count ?_)
  exact h ar2
theorem fx_m1le {n : Nat} (h : n < 2 ^ 31) : ¬ nI n ≤ -1 := by
  rw [Int32.le_iff_toInt_le, nI_toInt h, show (-1 : Int32).toInt = -1 from by decide]
  omega
theorem fx_best {post : Int32 → SX → Prop} {c : Nat → Bool} {p : Nat → Nat} {ap ar : Nat → Int32} (hp : ∀ k, p k < 65536) (hap : ∀ k, k < 10 → ap k = nI (p k)) (h : ∀ ar' : Nat → Int32, post (nI (fd_best (fx_kw p (fd_cc c 1023)) 254)) (nI (fd_pc c 10), ap, ar')) : wpX_bestSet post (nI (fd_pc c 10), ap, ar) := by
  have hf : ∀ s, fx_kw p (fd_cc c 1023) s ≤ 8 := fun s => fd_ctle _ 8
  have L : ∀ d n (ar : Nat → Int32), n + 2 + d = 256 → wX_bestSet_6 post (d + 1) (nI (fd_best (fx_kw p (fd_cc c 1023)) n)) (nI (fx_kw p (fd_cc c 1023) (fd_best (fx_kw p (fd_cc c 1023)) n))) (nI (n + 2)) (nI (fd_pc c 10)) ap ar := by
    intro d
    induction d with
    | zero =>
      intro n ar hn
      have e : n = 254 := by omega
      subst e
      exact br_t (by decide) (h ar)
    | succ d ih =>
      intro n ar hn
      refine br_f (nI_nlt (a := 255) (b := n + 2) (by omega) (by decide)) ?_
      refine fx_known (by omega) (by omega) hp hap (fun ar' => ?_)
      have e0 : fd_best (fx_kw p (fd_cc c 1023)) (n + 1) = if fx_kw p (fd_cc c 1023) (fd_best (fx_kw p (fd_cc c 1023)) n) < fx_kw p (fd_cc c 1023) (n + 2) then n + 2 else fd_best (fx_kw p (fd_cc c 1023)) n := rfl
      have f1 := hf (n + 2)
      have f2 := hf (fd_best (fx_kw p (fd_cc c 1023)) n)
      have t := ih (n + 1) ar' (by omega)
      refine pk_le (fx_kw p (fd_cc c 1023) (n + 2)) (fx_kw p (fd_cc c 1023) (fd_best (fx_kw p (fd_cc c 1023)) n)) (fun hle y ey => ?_) (fun hlt y ey => ?_)
      · rw [if_neg (by omega)] at e0
        rw [e0] at t
        rw [ey, nI_1]
        exact t
      · rw [if_pos hlt] at e0
        rw [e0] at t
        rw [ey, nI_1]
        exact t
  have S : ∀ n (ar : Nat → Int32), (∀ ar' : Nat → Int32, wX_bestSet_6 post n (nI 1) (nI (fx_kw p (fd_cc c 1023) 1)) (nI 2) (nI (fd_pc c 10)) ap ar') → wX_bestSet_6 post (n + 1) 1 (-1) 1 (nI (fd_pc c 10)) ap ar := by
    intro n ar hn
    refine br_f (nI_nlt (a := 255) (b := 1) (by decide) (by decide)) ?_
    refine fx_known (s := 1) (by decide) (by decide) hp hap (fun ar' => ?_)
    have f1 := hf 1
    refine br_f (fx_m1le (by omega)) (fun y ey => ?_)
    rw [ey]
    exact hn ar'
  exact ⟨_, S _ ar (fun ar' => L 254 0 ar' (by omega))⟩
theorem fx_k1 {post : Int32 → Prop} {c : Nat → Bool} {ap ar : Nat → Int32} {k : Nat} (hk : k < 10) (hc : c k = true) (h : post 1) : wpX_isKept post (nI (fd_pc c 10), ap, ar) (nI k) :=
  br_f (nI_pos (by omega)) (br_f (nI_ge (b := 10) hk (by decide)) (br_f (fun z => fd_nf hc ((fd_kept c hk).mp z)) h))
theorem fx_k0 {post : Int32 → Prop} {c : Nat → Bool} {ap ar : Nat → Int32} {k : Nat} (hk : k < 10) (hc : c k = false) (h : post 0) : wpX_isKept post (nI (fd_pc c 10), ap, ar) (nI k) :=
  br_f (nI_pos (by omega)) (br_f (nI_ge (b := 10) hk (by decide)) (br_t ((fd_kept c hk).mpr hc) h))
theorem fx_least {post : Int32 → Prop} {c : Nat → Bool} {ap ar : Nat → Int32} {k0 : Nat} (hk : k0 < 10) (hf : c k0 = false) (hl : ∀ j, j < k0 → c j = true) (h : post (nI k0)) : wpX_leastFreeNumber post (nI (fd_pc c 10), ap, ar) := by
  have L : ∀ d k, k + d = k0 → wX_leastFreeNumber_2 post (nI (fd_pc c 10)) ap ar (d + 1) (nI k) := by
    intro d
    induction d with
    | zero =>
      intro k e
      have e : k = k0 := by omega
      subst e
      exact br_c (fun _ => h) (fun _ => fx_k0 hk hf (br_t rfl h))
    | succ d ih =>
      intro k e
      refine br_f (nI_ge (b := 9) (by omega) (by decide)) (fx_k1 (by omega) (hl k (by omega)) (br_f (by decide) (fun y ey => ?_)))
      rw [ey, nI_1]
      exact ih (k + 1) (by omega)
  exact ⟨_, L k0 0 (by omega)⟩
end
section
/-! ===== the reference's walks: the table ===== -/
def fy_b (t : Bool) : Int32 := if t = true then 1 else 0
theorem fy_b0 {t : Bool} (h : ¬ t = true) : fy_b t = 0 := if_neg h
theorem fy_b1 {t : Bool} (h : t = true) : fy_b t = 1 := if_pos h
theorem fy_bz {t : Bool} : fy_b t = 0 ↔ t = false := by cases t <;> decide
theorem fy_bn {t : Bool} (h : t = true) : ¬ fy_b t = 0 := fun z => fd_nf h (fy_bz.mp z)
def fy_S (p : Nat → Nat) (c : Nat → Bool) (ath ase ava : Nat → Int32) : Prop := (∀ k, k < 10 → ath k = fy_b (c k)) ∧ (∀ k, k < 10 → ase k = nI (p k / 256)) ∧ (∀ k, k < 10 → ava k = nI (p k % 256))
theorem fy_76t {post : SY → Prop} {J24 : Int32 → (Nat → Int32) → (Nat → Int32) → (Nat → Int32) → (Nat → Int32) → Prop} {J54 : Int32 → Int32 → Int32 → Int32 → Prop} {x1 x2 x3 x4 : Int32} {ok : Bool} {k : Nat} {c : Nat → Bool} {ath ase ava T : Nat → Int32} (hk : k < 10) (ht : ath k = fy_b (c k)) (h : J54 (x3 ^^^ ase k) (x4 ^^^ ava k) (fy_b (ok && c k)) (nI (k + 1))) : wY_work_76 post J24 J54 x1 x2 x3 x4 (fy_b ok) (nI k) 1 ath ase ava T := by
  have hin : vp_in (nI k) 10 := vp_in_nI hk (by decide)
  have hcl : (nI k).toNatClampNeg = k := nI_clamp (by omega)
  have H : ∀ z0 : Int32, J54 (x3 ^^^ ase k) (x4 ^^^ ava k) z0 (nI (k + 1)) → wY_work_103 post J24 J54 x1 x2 x3 x4 (nI k) 1 z0 ath ase ava T := by
    intro z0 hz
    refine br_f (by decide) ⟨hin, ?_⟩
    rw [hcl]
    refine br_f (by decide) ⟨hin, fun y ey z ez => ?_⟩
    rw [ez, ey, hcl, nI_1]
    exact hz
  by_cases o : ok = true
  · rw [o, Bool.true_and] at h
    refine br_f (fy_bn o) (br_f (by decide) ⟨hin, ?_⟩)
    rw [hcl, ht]
    by_cases t : c k = true
    · refine br_f (fy_bn t) (H 1 ?_)
      rw [fy_b1 t] at h
      exact h
    · refine br_t (fy_b0 t) (H 0 ?_)
      rw [fy_b0 t] at h
      exact h
  · rw [fd_nt o, Bool.false_and] at h
    exact br_t (fy_b0 o) (H 0 h)
theorem fy_76f {post : SY → Prop} {J24 : Int32 → (Nat → Int32) → (Nat → Int32) → (Nat → Int32) → (Nat → Int32) → Prop} {J54 : Int32 → Int32 → Int32 → Int32 → Prop} {x1 x2 x3 x4 : Int32} {ok : Bool} {k : Nat} {ath ase ava T : Nat → Int32} (h : J54 x3 x4 (fy_b ok) (nI (k + 1))) : wY_work_76 post J24 J54 x1 x2 x3 x4 (fy_b ok) (nI k) 0 ath ase ava T := by
  have H : ∀ z0 : Int32, J54 x3 x4 z0 (nI (k + 1)) → wY_work_103 post J24 J54 x1 x2 x3 x4 (nI k) 0 z0 ath ase ava T := by
    intro z0 hz
    refine br_t rfl (br_t rfl (fun z ez => ?_))
    rw [ez, nI_1]
    exact hz
  by_cases o : ok = true
  · rw [fy_b1 o] at h
    exact br_f (fy_bn o) (br_t rfl (H 1 h))
  · rw [fy_b0 o] at h
    exact br_t (fy_b0 o) (H 0 h)
theorem fy_54 {post : SY → Prop} {J24 : Int32 → (Nat → Int32) → (Nat → Int32) → (Nat → Int32) → (Nat → Int32) → Prop} {x1 : Int32} {p : Nat → Nat} {c : Nat → Bool} {ath ase ava T : Nat → Int32} (hp : ∀ k, p k < 65536) (hS : fy_S p c ath ase ava) (a : Bool) {m : Nat} (hm : m < 1024) (h0 : ¬ fd_ok a c m 10 = true → J24 (nI (m + 1)) ath ase ava T) (h1 : fd_ok a c m 10 = true → J24 (nI (m + 1)) ath ase ava (upd T (fd_cx p m 10 / 256) (nI (fd_cx p m 10 % 256)))) : ∀ d k, k + d = 10 → wY_work_54 post J24 x1 (nI m) ath ase ava T (d + 1) (nI (fd_cx p m k / 256)) (nI (fd_cx p m k % 256)) (fy_b (fd_ok a c m k)) (nI k) := by
  intro d
  induction d with
  | zero =>
    intro k hk
    have e : k = 10 := by omega
    subst e
    refine br_t (by decide) ?_
    by_cases o : fd_ok a c m 10 = true
    · have hl := fd_cxlt hp m 10
      refine br_f (fy_bn o) ⟨vp_in_nI (by omega) (by decide), fun b eb y ey => ?_⟩
      rw [ey, eb, nI_1, nI_clamp (by omega)]
      exact h1 o
    · refine br_t (fy_b0 o) (fun y ey => ?_)
      rw [ey, nI_1]
      exact h0 o
  | succ d ih =>
    intro k hk
    have hk10 : k < 10 := by omega
    have t := ih (k + 1) (by omega)
    have eo : fd_ok a c m (k + 1) = (fd_ok a c m k && (!m.testBit k || c k)) := rfl
    have ex : fd_cx p m (k + 1) = if m.testBit k = true then fd_cx p m k ^^^ p k else fd_cx p m k := rfl
    refine br_f (nI_ge (b := 10) hk10 (by decide)) ?_
    rw [fd_bit (show m < 2 ^ 31 by omega) (show k < 32 by omega), fd_bo]
    by_cases b : m.testBit k = true
    · rw [if_pos b] at ex
      rw [b, Bool.not_true, Bool.false_or] at eo
      rw [ex, eo, fd_d, fd_m] at t
      refine br_t b (fy_76t hk10 (hS.1 k hk10) ?_)
      rw [hS.2.1 k hk10, hS.2.2 k hk10, nx_xor, nx_xor]
      exact t
    · rw [if_neg b] at ex
      rw [fd_nt b, Bool.not_false, Bool.true_or, Bool.and_true] at eo
      rw [ex, eo] at t
      exact br_f b (fy_76f t)
theorem fy_24 {post : SY → Prop} {w : Int32} {p : Nat → Nat} {c : Nat → Bool} {ath ase ava : Nat → Int32} (hp : ∀ k, p k < 65536) (hS : fy_S p c ath ase ava) (h : ∀ T : Nat → Int32, fd_Tab (fd_sp p (fd_cc c w) 10) T → post (ath, ase, ava, T)) : ∀ d m (T : Nat → Int32), m + d = 1024 → fd_TM p (fd_cc c w) m T → wY_work_24 post w (d + 1) (nI m) ath ase ava T := by
  intro d
  induction d with
  | zero =>
    intro m T hm hT
    have e : m = 1024 := by omega
    subst e
    exact br_t (by decide) (h T (fd_TMe hT))
  | succ d ih =>
    intro m T hm hT
    have hm' : m < 1024 := by omega
    have i54 := fy_54 (post := post) (J24 := wY_work_24 post w (d + 1)) (x1 := w) (T := T) hp hS (decide ((nI m &&& (w ^^^ (-1))) = 0)) hm' (fun o => ih (m + 1) T (by omega) (fd_TMs hT (fun z => o ((fd_okc hm').mpr z)))) (fun o => ih (m + 1) _ (by omega) (fd_TMu hT ((fd_okc hm').mp o))) 10 0 (by omega)
    have c0 : fd_cx p m 0 = 0 := rfl
    rw [c0, show nI (0 / 256) = 0 from by decide] at i54
    refine br_f (nI_ge (b := 1024) hm' (by decide)) ?_
    by_cases a : (nI m &&& (w ^^^ (-1))) = 0
    · have e : fy_b (fd_ok (decide ((nI m &&& (w ^^^ (-1))) = 0)) c m 0) = 1 := fy_b1 (decide_eq_true a)
      rw [e] at i54
      exact br_t a ⟨_, i54⟩
    · have e : fy_b (fd_ok (decide ((nI m &&& (w ^^^ (-1))) = 0)) c m 0) = 0 := fy_b0 (fun z => a (of_decide_eq_true z))
      rw [e] at i54
      exact br_f a ⟨_, i54⟩
theorem fy_work {post : SY → Prop} (w : Int32) {p : Nat → Nat} {c : Nat → Bool} {ath ase ava T : Nat → Int32} (hp : ∀ k, p k < 65536) (hS : fy_S p c ath ase ava) (h : ∀ T : Nat → Int32, fd_Tab (fd_sp p (fd_cc c w) 10) T → post (ath, ase, ava, T)) : wpY_work post (ath, ase, ava, T) w := by
  have L : ∀ d i (T : Nat → Int32), i + d = 256 → (∀ j, j < i → T j = -1) → wY_work_2 post w (d + 1) (nI i) ath ase ava T := by
    intro d
    induction d with
    | zero =>
      intro i T hi hT
      have e : i = 256 := by omega
      subst e
      exact br_t (by decide) ⟨_, fy_24 hp hS h 1024 0 T (by omega) (fd_TM0 hT)⟩
    | succ d ih =>
      intro i T hi hT
      refine br_f (nI_ge (b := 256) (by omega) (by decide)) ⟨vp_in_nI (by omega) (by decide), fun a ea y ey => ?_⟩
      rw [ea, ey, nI_1, nI_clamp (by omega)]
      refine ih (i + 1) _ (by omega) (fun j hj => ?_)
      by_cases e : j = i
      · rw [e, pk_us]
      · rw [pk_un e]
        exact hT j (by omega)
  exact ⟨_, L 256 0 T (by omega) (fun j hj => absurd hj (by omega))⟩
end
section
/-! ===== the reference's smaller methods ===== -/
theorem fy_size {post : Int32 → Prop} {ath ase ava T : Nat → Int32} (h : post (nI (fd_ct (fd_g T) 256))) : wpY_size post (ath, ase, ava, T) := by
  have L : ∀ d i, i + d = 256 → wY_size_4 post ath ase ava T (d + 1) (nI (fd_ct (fd_g T) i)) (nI i) := by
    intro d
    induction d with
    | zero =>
      intro i hi
      have e : i = 256 := by omega
      subst e
      exact br_t (by decide) h
    | succ d ih =>
      intro i hi
      have hi' : i < 256 := by omega
      have e0 : fd_ct (fd_g T) (i + 1) = if fd_g T i = true then fd_ct (fd_g T) i + 1 else fd_ct (fd_g T) i := rfl
      have t := ih (i + 1) (by omega)
      refine br_f (nI_ge (b := 256) hi' (by decide)) ⟨vp_in_nI hi' (by decide), ?_⟩
      rw [nI_clamp (by omega)]
      by_cases z : T i < 0
      · rw [if_neg (fd_gf z)] at e0
        rw [e0] at t
        refine br_t z (fun y ey => ?_)
        rw [ey, nI_1]
        exact t
      · rw [if_pos (fd_gt z)] at e0
        rw [e0] at t
        refine br_f z (fun y ey x ex => ?_)
        rw [ex, ey, nI_1, nI_1]
        exact t
  exact ⟨_, L 256 0 (by omega)⟩
def fy_w (T : Nat → Int32) (s i : Nat) : Bool := fd_g T (2 ^ i) || fd_g T (2 ^ i ^^^ s)
theorem fy_with {post : Int32 → Prop} {ath ase ava T : Nat → Int32} {s : Nat} (hs : s < 256) (h : post (nI (fd_ct (fy_w T s) 8))) : wpY_with post (ath, ase, ava, T) (nI s) := by
  have L : ∀ d i, i + d = 8 → wY_with_4 post (nI s) ath ase ava T (d + 1) (nI (fd_ct (fy_w T s) i)) (nI i) := by
    intro d
    induction d with
    | zero =>
      intro i hi
      have e : i = 8 := by omega
      subst e
      exact br_t (by decide) h
    | succ d ih =>
      intro i hi
      have hi' : i < 8 := by omega
      have h2 := fd_p8 hi'
      have hx : 2 ^ i ^^^ s < 256 := Nat.xor_lt_two_pow (n := 8) h2 hs
      have e0 : fd_ct (fy_w T s) (i + 1) = if fy_w T s i = true then fd_ct (fy_w T s) i + 1 else fd_ct (fy_w T s) i := rfl
      have t := ih (i + 1) (by omega)
      refine br_f (nI_ge (b := 8) hi' (by decide)) ?_
      rw [fd_one2 i (by omega), nx_xor, nI_clamp (show 2 ^ i < 2 ^ 31 by omega), nI_clamp (show 2 ^ i ^^^ s < 2 ^ 31 by omega)]
      refine ⟨vp_in_nI h2 (by decide), ?_⟩
      by_cases z : T (2 ^ i) < 0
      · refine br_f (Int32.not_le.mpr z) ⟨vp_in_nI hx (by decide), ?_⟩
        by_cases z2 : T (2 ^ i ^^^ s) < 0
        · have ew : ¬ fy_w T s i = true := by
            unfold fy_w
            rw [fd_nt (fd_gf z), fd_nt (fd_gf z2)]
            decide
          rw [if_neg ew] at e0
          rw [e0] at t
          refine br_t z2 (fun y ey => ?_)
          rw [ey, nI_1]
          exact t
        · have ew : fy_w T s i = true := by
            unfold fy_w
            rw [fd_gt z2, Bool.or_true]
          rw [if_pos ew] at e0
          rw [e0] at t
          refine br_f z2 (fun y ey x ex => ?_)
          rw [ex, ey, nI_1, nI_1]
          exact t
      · have ew : fy_w T s i = true := by
          unfold fy_w
          rw [fd_gt z, Bool.true_or]
        rw [if_pos ew] at e0
        rw [e0] at t
        refine br_t (Int32.not_lt.mp z) (fun y ey x ex => ?_)
        rw [ex, ey, nI_1, nI_1]
        exact t
  exact ⟨_, L 8 0 (by omega)⟩
theorem fy_known_l {post : Int32 → SY → Prop} {ath ase ava T : Nat → Int32} (h : post (nI (fd_pc (fun i => fd_g T (2 ^ i)) 8)) (ath, ase, ava, T)) : ∀ d i, i + d = 8 → wY_known_11 post ath ase ava T (d + 1) (nI (fd_pc (fun i => fd_g T (2 ^ i)) i)) (nI i) := by
  intro d
  induction d with
  | zero =>
    intro i hi
    have e : i = 8 := by omega
    subst e
    exact br_t (by decide) h
  | succ d ih =>
    intro i hi
    have hi' : i < 8 := by omega
    have h2 := fd_p8 hi'
    have e0 : fd_pc (fun i => fd_g T (2 ^ i)) (i + 1) = if fd_g T (2 ^ i) = true then fd_pc (fun i => fd_g T (2 ^ i)) i ||| 2 ^ i else fd_pc (fun i => fd_g T (2 ^ i)) i := rfl
    have t := ih (i + 1) (by omega)
    refine br_f (nI_ge (b := 8) hi' (by decide)) ?_
    rw [fd_one2 i (by omega), nI_clamp (show 2 ^ i < 2 ^ 31 by omega)]
    refine ⟨vp_in_nI h2 (by decide), ?_⟩
    by_cases z : T (2 ^ i) < 0
    · rw [if_neg (fd_gf z)] at e0
      rw [e0] at t
      refine br_t z (fun y ey => ?_)
      rw [ey, nI_1]
      exact t
    · rw [if_pos (fd_gt z)] at e0
      rw [e0] at t
      refine br_f z (fun y ey x ex => ?_)
      rw [ex, ey, nI_1, fd_or]
      exact t
theorem fy_drops_l {post : Int32 → Prop} {c : Nat → Bool} {ath ase ava T : Nat → Int32} (ha : ∀ k, k < 10 → ath k = fy_b (c k)) (h : post (nI (fd_pc c 10))) : ∀ d i, i + d = 10 → wY_drops_4 post ath ase ava T (d + 1) (nI (fd_pc c i)) (nI i) := by
  intro d
  induction d with
  | zero =>
    intro i hi
    have e : i = 10 := by omega
    subst e
    exact br_t (by decide) h
  | succ d ih =>
    intro i hi
    have hi' : i < 10 := by omega
    have e0 : fd_pc c (i + 1) = if c i = true then fd_pc c i ||| 2 ^ i else fd_pc c i := rfl
    have t := ih (i + 1) (by omega)
    refine br_f (nI_ge (b := 10) hi' (by decide)) ⟨vp_in_nI hi' (by decide), ?_⟩
    rw [nI_clamp (by omega), ha i hi', fd_one2 i (by omega)]
    by_cases z : c i = true
    · rw [if_pos z] at e0
      rw [e0] at t
      refine br_f (fy_bn z) (fun y ey x ex => ?_)
      rw [ex, ey, nI_1, fd_or]
      exact t
    · rw [if_neg z] at e0
      rw [e0] at t
      refine br_t (fy_b0 z) (fun y ey => ?_)
      rw [ey, nI_1]
      exact t
theorem fy_best_l {post : Int32 → SY → Prop} {ath ase ava T : Nat → Int32} {f : Nat → Nat} (hf : ∀ s, 1 ≤ s → s < 256 → f s = fd_ct (fy_w T s) 8) (h : post (nI (fd_best f 254)) (ath, ase, ava, T)) : ∀ d n, n + 2 + d = 256 → wY_bestSet_11 post ath ase ava T (d + 1) (nI (fd_best f n)) (nI (n + 2)) := by
  intro d
  induction d with
  | zero =>
    intro n hn
    have e : n = 254 := by omega
    subst e
    exact br_t (by decide) h
  | succ d ih =>
    intro n hn
    have e0 : fd_best f (n + 1) = if f (fd_best f n) < f (n + 2) then n + 2 else fd_best f n := rfl
    have t := ih (n + 1) (by omega)
    have hb := fd_bestle f n
    have f1 := fd_ctle (fy_w T (n + 2)) 8
    have f2 := fd_ctle (fy_w T (fd_best f n)) 8
    have g1 := hf (n + 2) (by omega) (by omega)
    have g2 := hf (fd_best f n) (by omega) (by omega)
    refine br_f (nI_ge (b := 256) (by omega) (by decide)) ?_
    refine fy_with (by omega) (fy_with (by omega) ?_)
    refine pk_le (fd_ct (fy_w T (n + 2)) 8) (fd_ct (fy_w T (fd_best f n)) 8) (fun hle y ey => ?_) (fun hlt y ey => ?_)
    · rw [if_neg (by omega)] at e0
      rw [e0] at t
      rw [ey, nI_1]
      exact t
    · rw [if_pos (by omega)] at e0
      rw [e0] at t
      rw [ey, nI_1]
      exact t
theorem fy_missing_l {post : Int32 → SY → Prop} {ath ase ava T : Nat → Int32} {r : Nat} (hr : r ≤ 8) (h : post (nI (8 - r)) (ath, ase, ava, T)) : ∀ d i, i + d = 8 - r → wY_missing_14 post (nI (2 ^ r)) ath ase ava T (d + 1) (nI i) := by
  intro d
  induction d with
  | zero =>
    intro i hi
    have e : i = 8 - r := by omega
    have e2 : 2 ^ r * 2 ^ i = 256 := by
      rw [← Nat.pow_add, show r + i = 8 by omega]
    subst e
    have es : nI (2 ^ r) <<< (nI (8 - r) &&& 31) = nI 256 := by
      rw [pk_shlN _ (8 - r) (s_l _ (by omega)) (by rw [e2]; decide), e2]
    rw [wY_missing_14]
    dsimp only
    rw [es]
    exact br_t (by decide) h
  | succ d ih =>
    intro i hi
    have e2 : 2 ^ r * 2 ^ i < 256 := by
      rw [← Nat.pow_add]
      exact Nat.pow_lt_pow_right (m := r + i) (n := 8) (by decide) (by omega)
    have es : nI (2 ^ r) <<< (nI i &&& 31) = nI (2 ^ r * 2 ^ i) := pk_shlN _ i (s_l _ (by omega)) (by omega)
    rw [wY_missing_14]
    dsimp only
    rw [es]
    refine br_f (nI_ge (b := 256) e2 (by decide)) (br_f (nI_ge (b := 8) (by omega) (by decide)) (fun y ey => ?_))
    rw [ey, nI_1]
    exact ih (i + 1) (by omega)
end
section
/-! ===== the relation ===== -/
def fd_J (p : Nat → Nat) (c : Nat → Bool) (ap ath ase ava : Nat → Int32) : Prop := (∀ k, p k < 65536) ∧ (∀ k, k < 10 → ap k = nI (p k)) ∧ fy_S p c ath ase ava ∧ fd_con (fd_sp p c 10)
def i_Rel (_ : Nat) (u : SX) (v : SY) : Prop := ∃ (p : Nat → Nat) (c : Nat → Bool) (ap ar ath ase ava T : Nat → Int32), u = (nI (fd_pc c 10), ap, ar) ∧ v = (ath, ase, ava, T) ∧ fd_J p c ap ath ase ava
theorem fd_rel {k : Nat} {p : Nat → Nat} {c : Nat → Bool} {ap ar ath ase ava T : Nat → Int32} (J : fd_J p c ap ath ase ava) : i_Rel k (nI (fd_pc c 10), ap, ar) (ath, ase, ava, T) := ⟨p, c, ap, ar, ath, ase, ava, T, rfl, rfl, J⟩
theorem fd_spn {p : Nat → Nat} : ∀ n x, fd_sp p (fun _ => false) n x → x = 0 := by
  intro n
  induction n with
  | zero => exact fun x hx => hx
  | succ n ih =>
    intro x hx
    have hx : fd_sp p (fun _ => false) n x ∨ (false = true ∧ fd_sp p (fun _ => false) n (x ^^^ p n)) := hx
    rcases hx with hx | ⟨hx, _⟩
    · exact ih x hx
    · exact absurd hx (by decide)
theorem fd_ccA (c : Nat → Bool) {k : Nat} (hk : k < 10) : fd_cc c 1023 k = c k := by
  unfold fd_cc
  rw [fd_1023 k (by omega), decide_eq_true hk, Bool.and_true]
theorem fd_spA (p : Nat → Nat) (c : Nat → Bool) : fd_sp p (fd_cc c 1023) 10 = fd_sp p c 10 := funext (fun x => propext (fd_spg 10 (fun _ _ => rfl) (fun k hk => fd_ccA c hk) x))
theorem fd_conA {p : Nat → Nat} {c : Nat → Bool} (h : fd_con (fd_sp p c 10)) : fd_con (fd_sp p (fd_cc c 1023) 10) := by rw [fd_spA]; exact h
theorem fx_gi {R : Nat → Nat} {i : Nat} : fx_g R i = true ↔ fd_red R 8 (2 ^ i * 256) < 256 := decide_eq_true_iff
/-! ===== sum and piece ===== -/
def fx_v (R : Nat → Nat) (s : Nat) : Int32 := if fd_red R 8 (s * 256) < 256 then nI (fd_red R 8 (s * 256) % 256) else -1
theorem fx_sum {post : Int32 → SX → Prop} {c : Nat → Bool} {p : Nat → Nat} {ap ar : Nat → Int32} {s : Nat} (hs : s < 256) (hp : ∀ k, p k < 65536) (hap : ∀ k, k < 10 → ap k = nI (p k)) (h : ∀ ar' : Nat → Int32, post (fx_v (fd_rows p (fd_cc c 1023) 10) s) (nI (fd_pc c 10), ap, ar')) : wpX_sum post (nI (fd_pc c 10), ap, ar) (nI s) := by
  unfold wpX_sum
  dsimp only
  refine br_f (nI_pos (by omega)) (br_t (nI_le (b := 255) (by omega) (by decide)) ?_)
  refine fx_fill 1023 hp hap (fun ar' hr => ?_)
  have hR := fx_rowsR hp (fd_cc c 1023) 10 hr
  have hq : s * 256 < 65536 := by omega
  have hb := fd_redb (fun b hb => (hR b hb).2) 8 (s * 256) (by omega) hq
  have h' := h ar'
  unfold fx_v at h'
  refine fx_pack0 hs (fx_red hR hq (fx_setOf hb ?_))
  by_cases t : fd_red (fd_rows p (fd_cc c 1023) 10) 8 (s * 256) < 256
  · rw [if_pos t] at h'
    exact br_t ((fd_dz hb).mpr t) (fx_valueOf h')
  · rw [if_neg t] at h'
    exact br_f (fun z => t ((fd_dz hb).mp z)) h'
theorem fx_piece {post : Int32 → SX → Prop} {c : Nat → Bool} {p : Nat → Nat} {ap ar : Nat → Int32} {i : Nat} (hi : i < 8) (hp : ∀ k, p k < 65536) (hap : ∀ k, k < 10 → ap k = nI (p k)) (h : ∀ ar' : Nat → Int32, post (fx_v (fd_rows p (fd_cc c 1023) 10) (2 ^ i)) (nI (fd_pc c 10), ap, ar')) : wpX_piece post (nI (fd_pc c 10), ap, ar) (nI i) := by
  unfold wpX_piece
  dsimp only
  refine br_f (nI_pos (by omega)) (br_f (nI_ge (b := 8) hi (by decide)) (br_f (by decide) ?_))
  rw [fd_one2 i (by omega)]
  exact fx_sum (fd_p8 hi) hp hap (fun ar' => h ar')
theorem fy_piece {post : Int32 → SY → Prop} {p : Nat → Nat} {c : Nat → Bool} {ath ase ava T : Nat → Int32} {i : Nat} (hi : i < 8) (hp : ∀ k, p k < 65536) (hS : fy_S p c ath ase ava) (h : ∀ T : Nat → Int32, fd_Tab (fd_sp p (fd_cc c 1023) 10) T → post (T (2 ^ i)) (ath, ase, ava, T)) : wpY_piece post (ath, ase, ava, T) (nI i) := by
  unfold wpY_piece
  dsimp only
  have h2 := fd_p8 hi
  refine fy_work 1023 hp hS (fun T' hT => ?_)
  refine br_f (nI_pos (by omega)) (br_f (nI_nlt (a := 7) (b := i) (by omega) (by decide)) ?_)
  rw [fd_one2 i (by omega), nI_clamp (show 2 ^ i < 2 ^ 31 by omega)]
  exact ⟨vp_in_nI h2 (by decide), h T' hT⟩
theorem fd_sv {p : Nat → Nat} {c : Nat → Bool} {T : Nat → Int32} (hp : ∀ k, p k < 65536) (hc : fd_con (fd_sp p c 10)) (hT : fd_Tab (fd_sp p (fd_cc c 1023) 10) T) {s : Nat} (hs : s < 256) : T s = fx_v (fd_rows p (fd_cc c 1023) 10) s := by
  have t := fd_sameval (fd_rowsE (fd_cc c 1023) hp 10) (fd_spcl p _ 10) (fd_splt hp 10) hT (fd_conA hc) hs
  unfold fx_v
  by_cases z : fd_red (fd_rows p (fd_cc c 1023) 10) 8 (s * 256) < 256
  · rw [if_pos z]; exact t.1 z
  · rw [if_neg z]; exact t.2 z
theorem fd_kwe {p : Nat → Nat} {c : Nat → Bool} {T : Nat → Int32} (hp : ∀ k, p k < 65536) (hT : fd_Tab (fd_sp p c 10) T) {s : Nat} (hs : s < 256) : fx_kw p c s = fd_ct (fy_w T s) 8 := by
  refine fd_ctg 8 (fun i hi => Bool.eq_iff_iff.mpr ?_)
  rw [fx_gi, fd_samew (fd_rowsE c hp 10) (fd_spcl p c 10) (fd_splt hp 10) hT hs (fd_p8 hi)]
  unfold fy_w
  rw [Bool.or_eq_true]
/-! ===== enough ===== -/
def fd_rr (p : Nat → Nat) (c : Nat → Bool) (w : Int32) : Nat := fd_rk (fd_rows p (fd_cc c w) 10) 8
theorem fd_rrle (p : Nat → Nat) (c : Nat → Bool) (w : Int32) : fd_rr p c w ≤ 8 := fd_rkle _ 8
theorem fx_enough {post : Int32 → SX → Prop} {c : Nat → Bool} {p : Nat → Nat} {ap ar : Nat → Int32} (w : Int32) (hp : ∀ k, p k < 65536) (hap : ∀ k, k < 10 → ap k = nI (p k)) (h : ∀ ar' : Nat → Int32, post (fy_b (decide (fd_rr p c w = fd_rr p c 1023))) (nI (fd_pc c 10), ap, ar')) : wpX_enough post (nI (fd_pc c 10), ap, ar) w := by
  unfold wpX_enough
  dsimp only
  have l1 := fd_rrle p c w
  have l2 := fd_rrle p c 1023
  refine fx_rank w hp hap (fun ar' => ?_)
  refine fx_rank 1023 hp hap (fun ar2 => ?_)
  have h' := h ar2
  refine pk_eq (fd_rr p c w) (fd_rr p c 1023) (fun e => ?_) (fun e => ?_)
  · rw [fy_b1 (decide_eq_true e)] at h'
    exact h'
  · rw [fy_b0 (fun z => e (of_decide_eq_true z))] at h'
    exact h'
theorem fd_sz {p : Nat → Nat} {c : Nat → Bool} {T : Nat → Int32} {w : Int32} (hp : ∀ k, p k < 65536) (hT : fd_Tab (fd_sp p (fd_cc c w) 10) T) : fd_ct (fd_g T) 256 = 2 ^ fd_rr p c w := fd_size (fd_rowsE (fd_cc c w) hp 10) (fd_spcl p _ 10) hT
theorem fy_enough {post : Int32 → SY → Prop} {p : Nat → Nat} {c : Nat → Bool} {ath ase ava T : Nat → Int32} (w : Int32) (hp : ∀ k, p k < 65536) (hS : fy_S p c ath ase ava) (h : ∀ T : Nat → Int32, post (fy_b (decide (fd_rr p c w = fd_rr p c 1023))) (ath, ase, ava, T)) : wpY_enough post (ath, ase, ava, T) w := by
  unfold wpY_enough
  dsimp only
  have l1 := fd_pw _ 8 (fd_rrle p c w)
  have l2 := fd_pw _ 8 (fd_rrle p c 1023)
  refine fy_work 1023 hp hS (fun T1 h1 => ?_)
  refine fy_size ?_
  refine fy_work w hp hS (fun T2 h2 => ?_)
  refine fy_size ?_
  have h' := h T2
  rw [fd_sz hp h1, fd_sz hp h2]
  refine pk_eq (2 ^ fd_rr p c w) (2 ^ fd_rr p c 1023) (fun e => ?_) (fun e => ?_)
  · rw [fy_b1 (decide_eq_true ((Nat.pow_right_inj (by decide)).mp e))] at h'
    exact h'
  · rw [fy_b0 (fun z => e (congrArg (fun n => 2 ^ n) (of_decide_eq_true z)))] at h'
    exact h'
end
section
/-! ===== what is owed ===== -/
theorem i_up {k : Nat} {u : SX} {v : SY} (h : i_Rel k u v) : i_Rel (k + 3) u v := h
theorem i_vc0 : wpX_init (fun u => wpY_init (fun v => i_Rel 0 u v)) := by
  refine ⟨fun _ => 0, fun _ => false, fun _ => 0, fun _ => 0, fun _ => 0, fun _ => 0, fun _ => 0, fun _ => 0, ?_, rfl, ?_⟩
  · rw [show nI (fd_pc (fun _ => false) 10) = 0 from by decide]
  · have e0 : nI (0 / 256) = 0 := by decide
    have e1 : nI (0 % 256) = 0 := by decide
    exact ⟨fun _ => Nat.zero_lt_succ _, fun _ _ => rfl, ⟨fun _ _ => rfl, fun _ _ => e0.symm, fun _ _ => e1.symm⟩, fun x hx _ => fd_spn 10 x hx⟩
theorem i_vc_drops {k : Nat} {u : SX} {v : SY} (I : i_Rel k u v) (hk : k + 3 ≤ 1536) : wpX_drops (fun r => wpY_drops (fun r' => r' = r ∧ i_Rel (k + 3) u v) v) u := by
  obtain ⟨p, c, ap, ar, ath, ase, ava, T, rfl, rfl, J⟩ := I
  unfold wpX_drops wpY_drops
  dsimp only
  exact ⟨_, fy_drops_l J.2.2.1.1 ⟨rfl, fd_rel J⟩ 10 0 (by omega)⟩
theorem i_vc_known {k : Nat} {u : SX} {v : SY} (I : i_Rel k u v) (hk : k + 3 ≤ 1536) : wpX_known (fun r u' => wpY_known (fun r' v' => r' = r ∧ i_Rel (k + 3) u' v') v) u := by
  obtain ⟨p, c, ap, ar, ath, ase, ava, T, rfl, rfl, J⟩ := I
  unfold wpX_known wpY_known
  dsimp only
  refine fx_fill 1023 J.1 J.2.1 (fun ar' hr => ?_)
  refine fx_pieces (fx_rowsR J.1 _ 10 hr) ?_
  refine fy_work 1023 J.1 J.2.2.1 (fun T' hT => ?_)
  refine ⟨_, fy_known_l ⟨congrArg nI (fd_pcg 8 (fun i hi => Bool.eq_iff_iff.mpr ?_)), fd_rel J⟩ 8 0 (by omega)⟩
  rw [fx_gi, fd_same (fd_rowsE _ J.1 10) (fd_spcl p _ 10) (fd_splt J.1 10) hT (fd_p8 hi)]
theorem i_vc_sum {k : Nat} {u : SX} {v : SY} (I : i_Rel k u v) (hk : k + 3 ≤ 1536) (v1 : Int32) : wpX_sum (fun r u' => wpY_sum (fun r' v' => r' = r ∧ i_Rel (k + 3) u' v') v v1) u v1 := by
  obtain ⟨p, c, ap, ar, ath, ase, ava, T, rfl, rfl, J⟩ := I
  rcases fd_ix 255 (by decide) v1 with h | ⟨h0, _, h⟩ | ⟨s, hs, rfl, h0, _, h⟩
  · unfold wpX_sum wpY_sum
    dsimp only
    refine br_t h (fy_work 1023 J.1 J.2.2.1 (fun T' hT => ?_))
    exact br_t h ⟨rfl, fd_rel J⟩
  · unfold wpX_sum wpY_sum
    dsimp only
    refine br_f h0 (br_f (Int32.not_le.mpr h) (fy_work 1023 J.1 J.2.2.1 (fun T' hT => ?_)))
    exact br_f h0 (br_t h ⟨rfl, fd_rel J⟩)
  · refine fx_sum hs J.1 J.2.1 (fun ar' => ?_)
    unfold wpY_sum
    dsimp only
    refine fy_work 1023 J.1 J.2.2.1 (fun T' hT => ?_)
    refine br_f h0 (br_f h ⟨vp_in_nI hs (by decide), ?_, fd_rel J⟩)
    rw [nI_clamp (by omega)]
    exact fd_sv J.1 J.2.2.2 hT hs
theorem i_vc_piece {k : Nat} {u : SX} {v : SY} (I : i_Rel k u v) (hk : k + 3 ≤ 1536) (v1 : Int32) : wpX_piece (fun r u' => wpY_piece (fun r' v' => r' = r ∧ i_Rel (k + 3) u' v') v v1) u v1 := by
  obtain ⟨p, c, ap, ar, ath, ase, ava, T, rfl, rfl, J⟩ := I
  rcases fd_ix 7 (by decide) v1 with h | ⟨h0, h8, h⟩ | ⟨i, hi, rfl, h0, _, h⟩
  · unfold wpX_piece wpY_piece
    dsimp only
    refine br_t h (br_t rfl (fy_work 1023 J.1 J.2.2.1 (fun T' hT => ?_)))
    exact br_t h ⟨rfl, fd_rel J⟩
  · unfold wpX_piece wpY_piece
    dsimp only
    refine br_f h0 (br_t h8 (br_t rfl (fy_work 1023 J.1 J.2.2.1 (fun T' hT => ?_))))
    exact br_f h0 (br_t h ⟨rfl, fd_rel J⟩)
  · refine fx_piece hi J.1 J.2.1 (fun ar' => ?_)
    refine fy_piece hi J.1 J.2.2.1 (fun T' hT => ?_)
    exact ⟨fd_sv J.1 J.2.2.2 hT (fd_p8 hi), fd_rel J⟩
theorem i_vc_missing {k : Nat} {u : SX} {v : SY} (I : i_Rel k u v) (hk : k + 3 ≤ 1536) : wpX_missing (fun r u' => wpY_missing (fun r' v' => r' = r ∧ i_Rel (k + 3) u' v') v) u := by
  obtain ⟨p, c, ap, ar, ath, ase, ava, T, rfl, rfl, J⟩ := I
  unfold wpX_missing wpY_missing
  dsimp only
  have l := fd_rrle p c 1023
  refine fx_rank 1023 J.1 J.2.1 (fun ar' => ?_)
  refine fy_work 1023 J.1 J.2.2.1 (fun T' hT => ?_)
  refine fy_size ?_
  rw [fd_sz J.1 hT]
  exact ⟨_, fy_missing_l l ⟨(pk_sub l).symm, fd_rel J⟩ _ 0 (Nat.zero_add _)⟩
theorem i_vc_knownSums {k : Nat} {u : SX} {v : SY} (I : i_Rel k u v) (hk : k + 3 ≤ 1536) : wpX_knownSums (fun r u' => wpY_knownSums (fun r' v' => r' = r ∧ i_Rel (k + 3) u' v') v) u := by
  obtain ⟨p, c, ap, ar, ath, ase, ava, T, rfl, rfl, J⟩ := I
  unfold wpX_knownSums wpY_knownSums
  dsimp only
  have l := fd_rrle p c 1023
  refine fx_rank 1023 J.1 J.2.1 (fun ar' => ?_)
  refine fy_work 1023 J.1 J.2.2.1 (fun T' hT => ?_)
  refine fy_size ?_
  rw [fd_sz J.1 hT]
  have e : (1 : Int32) <<< (nI (fd_rr p c 1023) &&& 31) = nI (2 ^ fd_rr p c 1023) := fd_one2 _ (by omega)
  refine ⟨?_, fd_rel J⟩
  rw [← e]
  rfl
theorem i_vc_knownWith {k : Nat} {u : SX} {v : SY} (I : i_Rel k u v) (hk : k + 3 ≤ 1536) (v1 : Int32) : wpX_knownWith (fun r u' => wpY_knownWith (fun r' v' => r' = r ∧ i_Rel (k + 3) u' v') v v1) u v1 := by
  obtain ⟨p, c, ap, ar, ath, ase, ava, T, rfl, rfl, J⟩ := I
  by_cases h1 : v1 < 1
  · unfold wpX_knownWith wpY_knownWith
    dsimp only
    exact br_t h1 (br_t rfl (br_t h1 (br_t rfl ⟨rfl, fd_rel J⟩)))
  · by_cases h2 : 255 < v1
    · unfold wpX_knownWith wpY_knownWith
      dsimp only
      exact br_f h1 (br_t h2 (br_t rfl (br_f h1 (br_t h2 (br_t rfl ⟨rfl, fd_rel J⟩)))))
    · obtain ⟨s, hs1, hs, rfl⟩ := fd_r1 h1 h2
      refine fx_known hs1 hs J.1 J.2.1 (fun ar' => ?_)
      unfold wpY_knownWith
      dsimp only
      refine br_f h1 (br_f h2 (br_f (by decide) ?_))
      refine fy_work 1023 J.1 J.2.2.1 (fun T' hT => ?_)
      refine fy_with hs ⟨?_, fd_rel J⟩
      rw [fd_kwe J.1 hT hs]
theorem i_vc_bestSet {k : Nat} {u : SX} {v : SY} (I : i_Rel k u v) (hk : k + 3 ≤ 1536) : wpX_bestSet (fun r u' => wpY_bestSet (fun r' v' => r' = r ∧ i_Rel (k + 3) u' v') v) u := by
  obtain ⟨p, c, ap, ar, ath, ase, ava, T, rfl, rfl, J⟩ := I
  refine fx_best J.1 J.2.1 (fun ar' => ?_)
  unfold wpY_bestSet
  dsimp only
  refine fy_work 1023 J.1 J.2.2.1 (fun T' hT => ?_)
  exact ⟨_, fy_best_l (f := fx_kw p (fd_cc c 1023)) (fun s _ hs => fd_kwe J.1 hT hs) ⟨rfl, fd_rel J⟩ 254 0 (by omega)⟩
theorem fx_possible {post : Int32 → SX → Prop} {c : Nat → Bool} {p : Nat → Nat} {ap ar : Nat → Int32} {i : Nat} {v2 : Int32} (hi : i < 8) (g0 : ¬ v2 < 0) (g1 : ¬ 255 < v2) (hp : ∀ k, p k < 65536) (hap : ∀ k, k < 10 → ap k = nI (p k)) (h : ∀ ar' : Nat → Int32, post (fy_b (decide (fx_v (fd_rows p (fd_cc c 1023) 10) (2 ^ i) < 0 ∨ fx_v (fd_rows p (fd_cc c 1023) 10) (2 ^ i) = v2))) (nI (fd_pc c 10), ap, ar')) : wpX_possible post (nI (fd_pc c 10), ap, ar) (nI i) v2 := by
  unfold wpX_possible
  dsimp only
  refine br_f (nI_pos (by omega)) (br_f (nI_ge (b := 8) hi (by decide)) (br_f (by decide) (br_f g0 (br_f g1 (br_f (by decide) ?_)))))
  refine fx_piece hi hp hap (fun ar' => ?_)
  have h' := h ar'
  have D : fx_v (fd_rows p (fd_cc c 1023) 10) (2 ^ i) = -1 ∨ ∃ m, m < 256 ∧ fx_v (fd_rows p (fd_cc c 1023) 10) (2 ^ i) = nI m := by
    unfold fx_v
    by_cases z : fd_red (fd_rows p (fd_cc c 1023) 10) 8 (2 ^ i * 256) < 256
    · rw [if_pos z]
      exact Or.inr ⟨_, Nat.mod_lt _ (by decide), rfl⟩
    · rw [if_neg z]
      exact Or.inl rfl
  generalize fx_v (fd_rows p (fd_cc c 1023) 10) (2 ^ i) = e at h' D ⊢
  rcases D with D | ⟨m, hm, D⟩
  · rw [fy_b1 (decide_eq_true (Or.inl (by rw [D]; exact fd_m1)))] at h'
    exact br_t D h'
  · have n1 : ¬ e = -1 := fun z => fx_m1le (n := m) (by omega) (by rw [← D, z]; exact Int32.le_refl _)
    have n2 : ¬ e < 0 := by
      rw [D]
      exact nI_pos (by omega)
    refine br_f n1 ?_
    by_cases z : e = v2
    · rw [fy_b1 (decide_eq_true (Or.inr z))] at h'
      exact br_t z h'
    · rw [fy_b0 (fun y => (of_decide_eq_true y).elim n2 z)] at h'
      exact br_f z h'
theorem fy_possible {post : Int32 → SY → Prop} {p : Nat → Nat} {c : Nat → Bool} {ath ase ava T : Nat → Int32} {i : Nat} {v2 : Int32} (hi : i < 8) (g0 : ¬ v2 < 0) (g1 : ¬ 255 < v2) (hp : ∀ k, p k < 65536) (hS : fy_S p c ath ase ava) (h : ∀ T : Nat → Int32, fd_Tab (fd_sp p (fd_cc c 1023) 10) T → post (fy_b (decide (T (2 ^ i) < 0 ∨ T (2 ^ i) = v2))) (ath, ase, ava, T)) : wpY_possible post (ath, ase, ava, T) (nI i) v2 := by
  unfold wpY_possible
  dsimp only
  refine br_f (nI_pos (by omega)) (br_f (nI_nlt (a := 7) (b := i) (by omega) (by decide)) (br_f g0 (br_f g1 (br_f (by decide) ?_))))
  refine fy_piece hi hp hS (fun T' hT => ?_)
  have h' := h T' hT
  by_cases n2 : T' (2 ^ i) < 0
  · rw [fy_b1 (decide_eq_true (Or.inl n2))] at h'
    exact br_t n2 h'
  · refine br_f n2 ?_
    by_cases z : T' (2 ^ i) = v2
    · rw [fy_b1 (decide_eq_true (Or.inr z))] at h'
      exact br_t z h'
    · rw [fy_b0 (fun y => (of_decide_eq_true y).elim n2 z)] at h'
      exact br_f z h'
theorem i_vc_possible {k : Nat} {u : SX} {v : SY} (I : i_Rel k u v) (hk : k + 3 ≤ 1536) (v1 : Int32) (v2 : Int32) : wpX_possible (fun r u' => wpY_possible (fun r' v' => r' = r ∧ i_Rel (k + 3) u' v') v v1 v2) u v1 v2 := by
  obtain ⟨p, c, ap, ar, ath, ase, ava, T, rfl, rfl, J⟩ := I
  rcases fd_ix 7 (by decide) v1 with h | ⟨h0, h8, h⟩ | ⟨i, hi, rfl, h0, h8, h⟩
  · unfold wpX_possible wpY_possible
    dsimp only
    exact br_t h (br_t rfl (br_t h ⟨rfl, fd_rel J⟩))
  · unfold wpX_possible wpY_possible
    dsimp only
    exact br_f h0 (br_t h8 (br_t rfl (br_f h0 (br_t h ⟨rfl, fd_rel J⟩))))
  · by_cases g0 : v2 < 0
    · unfold wpX_possible wpY_possible
      dsimp only
      exact br_f h0 (br_f h8 (br_f (by decide) (br_t g0 (br_t rfl (br_f h0 (br_f h (br_t g0 (br_t rfl ⟨rfl, fd_rel J⟩))))))))
    · by_cases g1 : 255 < v2
      · unfold wpX_possible wpY_possible
        dsimp only
        exact br_f h0 (br_f h8 (br_f (by decide) (br_f g0 (br_t g1 (br_t rfl (br_f h0 (br_f h (br_f g0 (br_t g1 (br_t rfl ⟨rfl, fd_rel J⟩))))))))))
      · refine fx_possible hi g0 g1 J.1 J.2.1 (fun ar' => ?_)
        refine fy_possible hi g0 g1 J.1 J.2.2.1 (fun T' hT => ⟨?_, fd_rel J⟩)
        rw [fd_sv J.1 J.2.2.2 hT (fd_p8 hi)]
theorem i_vc_enough {k : Nat} {u : SX} {v : SY} (I : i_Rel k u v) (hk : k + 3 ≤ 1536) (v1 : Int32) : wpX_enough (fun r u' => wpY_enough (fun r' v' => r' = r ∧ i_Rel (k + 3) u' v') v v1) u v1 := by
  obtain ⟨p, c, ap, ar, ath, ase, ava, T, rfl, rfl, J⟩ := I
  exact fx_enough v1 J.1 J.2.1 (fun ar' => fy_enough v1 J.1 J.2.2.1 (fun T' => ⟨rfl, fd_rel J⟩))
theorem fd_nar (t : Bool) : narrow .boolean (.int (fy_b t)) = .int (fy_b t) := by cases t <;> rfl
theorem fx_idle {post : Int32 → SX → Prop} {c : Nat → Bool} {p : Nat → Nat} {ap ar : Nat → Int32} {j : Nat} (hj : j < 10) (hc : c j = true) (hp : ∀ k, p k < 65536) (hap : ∀ k, k < 10 → ap k = nI (p k)) (h : ∀ ar' : Nat → Int32, post (fy_b (decide (fd_rr p c (((1 : Int32) <<< (nI j &&& 31)) ^^^ (-1)) = fd_rr p c 1023))) (nI (fd_pc c 10), ap, ar')) : wpX_idle post (nI (fd_pc c 10), ap, ar) (nI j) := by
  unfold wpX_idle
  dsimp only
  refine fx_k1 hj hc (br_f (by decide) ?_)
  refine fx_enough _ hp hap (fun ar' => ?_)
  have h' := h ar'
  generalize decide (fd_rr p c (((1 : Int32) <<< (nI j &&& 31)) ^^^ (-1)) = fd_rr p c 1023) = b at h' ⊢
  cases b
  · exact br_t rfl h'
  · exact br_f (by decide) h'
theorem fy_idle {post : Int32 → SY → Prop} {p : Nat → Nat} {c : Nat → Bool} {ath ase ava T : Nat → Int32} {j : Nat} (hj : j < 10) (hc : c j = true) (hp : ∀ k, p k < 65536) (hS : fy_S p c ath ase ava) (h : ∀ T : Nat → Int32, post (fy_b (decide (fd_rr p c (1023 &&& (((1 : Int32) <<< (nI j &&& 31)) ^^^ (-1))) = fd_rr p c 1023))) (ath, ase, ava, T)) : wpY_idle post (ath, ase, ava, T) (nI j) := by
  unfold wpY_idle
  dsimp only
  refine br_f (nI_pos (by omega)) (br_f (nI_nlt (a := 9) (b := j) (by omega) (by decide)) ⟨vp_in_nI hj (by decide), ?_⟩)
  rw [nI_clamp (by omega), hS.1 j hj]
  refine br_f (fy_bn hc) (fy_enough _ hp hS (fun T' => ?_))
  exact ⟨fd_nar _, h T'⟩
theorem i_vc_idle {k : Nat} {u : SX} {v : SY} (I : i_Rel k u v) (hk : k + 3 ≤ 1536) (v1 : Int32) : wpX_idle (fun r u' => wpY_idle (fun r' v' => r' = r ∧ i_Rel (k + 3) u' v') v v1) u v1 := by
  obtain ⟨p, c, ap, ar, ath, ase, ava, T, rfl, rfl, J⟩ := I
  rcases fd_ix 9 (by decide) v1 with h | ⟨h0, h10, h⟩ | ⟨j, hj, rfl, h0, h10, h⟩
  · unfold wpX_idle wpY_idle
    dsimp only
    exact br_t h (br_t rfl (br_t h ⟨rfl, fd_rel J⟩))
  · unfold wpX_idle wpY_idle
    dsimp only
    exact br_f h0 (br_t h10 (br_t rfl (br_f h0 (br_t h ⟨rfl, fd_rel J⟩))))
  · by_cases hc : c j = true
    · refine fx_idle hj hc J.1 J.2.1 (fun ar' => ?_)
      refine fy_idle hj hc J.1 J.2.2.1 (fun T' => ⟨?_, fd_rel J⟩)
      have er : fd_rr p c (((1 : Int32) <<< (nI j &&& 31)) ^^^ (-1)) = fd_rr p c (1023 &&& (((1 : Int32) <<< (nI j &&& 31)) ^^^ (-1))) := by
        unfold fd_rr
        rw [fd_rowsg 10 (c' := fd_cc c (1023 &&& (((1 : Int32) <<< (nI j &&& 31)) ^^^ (-1)))) (fun i hi => by unfold fd_cc; rw [fd_notk hj hi])]
      rw [er]
    · unfold wpX_idle wpY_idle
      dsimp only
      refine fx_k0 hj (fd_nt hc) (br_t rfl ?_)
      refine br_f h0 (br_f h ⟨vp_in_nI hj (by decide), ?_⟩)
      rw [nI_clamp (by omega), J.2.2.1.1 j hj]
      exact br_t (fy_b0 hc) ⟨rfl, fd_rel J⟩
theorem i_vc_drop {k : Nat} {u : SX} {v : SY} (I : i_Rel k u v) (hk : k + 3 ≤ 1536) (v1 : Int32) : wpX_drop (fun r u' => wpY_drop (fun r' v' => r' = r ∧ i_Rel (k + 3) u' v') v v1) u v1 := by
  obtain ⟨p, c, ap, ar, ath, ase, ava, T, rfl, rfl, J⟩ := I
  unfold wpX_drop wpY_drop
  dsimp only
  rcases fd_ix 9 (by decide) v1 with h | ⟨h0, h10, h⟩ | ⟨j, hj, rfl, h0, h10, h⟩
  · exact br_t h (br_t rfl (br_t h ⟨rfl, fd_rel J⟩))
  · exact br_f h0 (br_t h10 (br_t rfl (br_f h0 (br_t h ⟨rfl, fd_rel J⟩))))
  · have hin : vp_in (nI j) 10 := vp_in_nI hj (by decide)
    have ha := J.2.2.1.1 j hj
    by_cases hc : c j = true
    · refine fx_k1 hj hc (br_f (by decide) (fun f ef => ?_))
      rw [ef, fd_kdrop c hj]
      refine br_f h0 (br_f h ⟨hin, ?_⟩)
      rw [nI_clamp (by omega), ha]
      refine br_f (fy_bn hc) ⟨hin, fun a ea => ⟨rfl, ?_⟩⟩
      rw [ea]
      refine fd_rel (p := p) ⟨J.1, J.2.1, ⟨fun i hi => ?_, J.2.2.1.2⟩, fun x hx => J.2.2.2 x (fd_spm 10 (fun i _ ht => ?_) x hx)⟩
      · by_cases e : i = j
        · rw [e, pk_us]
          dsimp only
          rw [if_pos rfl]
          rfl
        · rw [pk_un e]
          dsimp only
          rw [if_neg e]
          exact J.2.2.1.1 i hi
      · by_cases e : i = j
        · rw [if_pos e] at ht; exact absurd ht (by decide)
        · rw [if_neg e] at ht; exact ht
    · refine fx_k0 hj (fd_nt hc) (br_t rfl ?_)
      refine br_f h0 (br_f h ⟨hin, ?_⟩)
      rw [nI_clamp (by omega), ha]
      exact br_t (fy_b0 hc) ⟨rfl, fd_rel J⟩
end
section
/-! ===== take ===== -/
theorem fd_free (c : Nat → Bool) : ∀ n, (∀ k, k < n → c k = true) ∨ (∃ k0, k0 < n ∧ c k0 = false ∧ ∀ j, j < k0 → c j = true) := by
  intro n
  induction n with
  | zero => exact Or.inl (fun k hk => absurd hk (by omega))
  | succ n ih =>
    rcases ih with h | ⟨k0, h1, h2, h3⟩
    · by_cases e : c n = true
      · refine Or.inl (fun k hk => ?_)
        by_cases z : k = n
        · rw [z]; exact e
        · exact h k (by omega)
      · exact Or.inr ⟨n, by omega, fd_nt e, h⟩
    · exact Or.inr ⟨k0, by omega, h2, h3⟩
theorem fx_take {post : Int32 → SX → Prop} {c : Nat → Bool} {p : Nat → Nat} {ap ar : Nat → Int32} {s w : Nat} (hs1 : 1 ≤ s) (hs : s < 256) (hw : w < 256) (hp : ∀ k, p k < 65536) (hap : ∀ k, k < 10 → ap k = nI (p k)) (hn : ¬ ∀ k, k < 10 → c k = true) (h : ∀ ar' : Nat → Int32, ((fd_red (fd_rows p (fd_cc c 1023) 10) 8 (s * 256 + w) / 256 = 0 ∧ ¬ fd_red (fd_rows p (fd_cc c 1023) 10) 8 (s * 256 + w) % 256 = 0) → post (-3) (nI (fd_pc c 10), ap, ar')) ∧ (¬ (fd_red (fd_rows p (fd_cc c 1023) 10) 8 (s * 256 + w) / 256 = 0 ∧ ¬ fd_red (fd_rows p (fd_cc c 1023) 10) 8 (s * 256 + w) % 256 = 0) → ∀ k0, k0 < 10 → c k0 = false → (∀ j, j < k0 → c j = true) → post (nI k0) (nI (fd_pc (fun j => if j = k0 then true else c j) 10), upd ap k0 (nI (s * 256 + w)), ar'))) : wpX_take post (nI (fd_pc c 10), ap, ar) (nI s) (nI w) := by
  unfold wpX_take
  dsimp only
  refine br_f (nI_nlt (b := 1) hs1 (by omega)) (br_f (nI_nlt (a := 255) (show s ≤ 255 by omega) (by decide)) (br_f (by decide) ?_))
  refine br_f (nI_pos (by omega)) (br_f (nI_nlt (a := 255) (show w ≤ 255 by omega) (by decide)) (br_f (by decide) ?_))
  refine br_f (fun z => hn ((fd_kfull c).mp z)) ?_
  refine fx_pack hs hw ?_
  refine fx_fill 1023 hp hap (fun ar' hr => ?_)
  have hR := fx_rowsR hp (fd_cc c 1023) 10 hr
  have hq : s * 256 + w < 65536 := by omega
  have hb := fd_redb (fun b hb => (hR b hb).2) 8 (s * 256 + w) (by omega) hq
  have h' := h ar'
  refine fx_red hR hq (fx_setOf hb ?_)
  by_cases rf : fd_red (fd_rows p (fd_cc c 1023) 10) 8 (s * 256 + w) / 256 = 0 ∧ ¬ fd_red (fd_rows p (fd_cc c 1023) 10) 8 (s * 256 + w) % 256 = 0
  · refine br_t (by rw [rf.1]; rfl) (fx_valueOf (br_f (fun z => rf.2 ((fd_mz _).mp z)) ?_))
    exact h'.1 rf
  · obtain ⟨k0, hk, hf, hl⟩ : ∃ k0, k0 < 10 ∧ c k0 = false ∧ ∀ j, j < k0 → c j = true := (fd_free c 10).elim (fun z => absurd z hn) id
    have H : wX_take_68 post (nI (s * 256 + w)) (nI (fd_pc c 10)) ap ar' := by
      unfold wX_take_68
      refine fx_least hk hf hl ⟨vp_in_nI hk (by decide), fun a ea f ef => ?_⟩
      rw [ea, ef, nI_clamp (by omega), fd_ktake c hk]
      exact h'.2 rf k0 hk hf hl
    refine br_c (fun z => fx_valueOf (br_t ((fd_mz _).mpr ?_) H)) (fun _ => H)
    have z' : fd_red (fd_rows p (fd_cc c 1023) 10) 8 (s * 256 + w) < 256 := (fd_dz hb).mp z
    exact Classical.byContradiction (fun y => rf ⟨Nat.div_eq_of_lt z', y⟩)
theorem fy_take_full {post : Int32 → SY → Prop} {x1 x2 : Int32} {c : Nat → Bool} {ath ase ava T : Nat → Int32} (ha : ∀ k, k < 10 → ath k = fy_b (c k)) (hc : ∀ k, k < 10 → c k = true) (h : post (-2) (ath, ase, ava, T)) : ∀ d i, i + d = 10 → wY_take_27 post x1 x2 ath ase ava T (d + 1) (nI i) := by
  intro d
  induction d with
  | zero =>
    intro i hi
    have e : i = 10 := by omega
    subst e
    exact br_t (by decide) h
  | succ d ih =>
    intro i hi
    have hi' : i < 10 := by omega
    refine br_f (nI_ge (b := 10) hi' (by decide)) ⟨vp_in_nI hi' (by decide), ?_⟩
    rw [nI_clamp (by omega), ha i hi']
    refine br_f (fy_bn (hc i hi')) (fun y ey => ?_)
    rw [ey, nI_1]
    exact ih (i + 1) (by omega)
theorem fy_take_l {post : Int32 → SY → Prop} {s w : Nat} {c : Nat → Bool} {ath ase ava T : Nat → Int32} (hs : s < 256) (ha : ∀ k, k < 10 → ath k = fy_b (c k)) {k0 : Nat} (hk : k0 < 10) (hf : c k0 = false) (hl : ∀ j, j < k0 → c j = true) (h1 : (¬ T s < 0 ∧ ¬ T s = nI w) → post (-3) (ath, ase, ava, T)) (h2 : ¬ (¬ T s < 0 ∧ ¬ T s = nI w) → post (nI k0) (upd ath k0 (vp_nar .boolean 1), upd ase k0 (nI s), upd ava k0 (nI w), T)) : ∀ d i, i + d = k0 → wY_take_27 post (nI s) (nI w) ath ase ava T (d + 1) (nI i) := by
  intro d
  induction d with
  | zero =>
    intro i hi
    have e : i = k0 := by omega
    subst e
    have hin : vp_in (nI i) 10 := vp_in_nI hk (by decide)
    have hsn : vp_in (nI s) 256 := vp_in_nI hs (by decide)
    have H : ¬ (¬ T s < 0 ∧ ¬ T s = nI w) → wY_take_64 post (nI s) (nI w) (nI i) ath ase ava T := by
      intro z
      refine ⟨hin, fun a ea => ⟨hin, fun b eb => ⟨hin, fun d ed => ?_⟩⟩⟩
      rw [ea, eb, ed, nI_clamp (by omega)]
      exact h2 z
    refine br_f (nI_ge (b := 10) hk (by decide)) ⟨hin, ?_⟩
    rw [nI_clamp (show i < 2 ^ 31 by omega), ha i hk]
    refine br_t (fy_bz.mpr hf) ⟨hsn, ?_⟩
    rw [nI_clamp (show s < 2 ^ 31 by omega)]
    by_cases z1 : T s < 0
    · exact br_t z1 (H (fun z => z.1 z1))
    · refine br_f z1 ⟨hsn, ?_⟩
      by_cases z2 : T s = nI w
      · exact br_t z2 (H (fun z => z.2 z2))
      · exact br_f z2 (h1 ⟨z1, z2⟩)
  | succ d ih =>
    intro i hi
    have hi' : i < 10 := by omega
    refine br_f (nI_ge (b := 10) hi' (by decide)) ⟨vp_in_nI hi' (by decide), ?_⟩
    rw [nI_clamp (show i < 2 ^ 31 by omega), ha i hi']
    refine br_f (fy_bn (hl i (by omega))) (fun y ey => ?_)
    rw [ey, nI_1]
    exact ih (i + 1) (by omega)
theorem fd_Jtake {p : Nat → Nat} {c : Nat → Bool} {ap ath ase ava : Nat → Int32} (J : fd_J p c ap ath ase ava) {T : Nat → Int32} (hT : fd_Tab (fd_sp p (fd_cc c 1023) 10) T) {s w k0 : Nat} (hs : s < 256) (hw : w < 256) (hk : k0 < 10) (hf : c k0 = false) (hn : ¬ (¬ T s < 0 ∧ ¬ T s = nI w)) : fd_J (fun j => if j = k0 then s * 256 + w else p j) (fun j => if j = k0 then true else c j) (upd ap k0 (nI (s * 256 + w))) (upd ath k0 (vp_nar .boolean 1)) (upd ase k0 (nI s)) (upd ava k0 (nI w)) := by
  have eq := fd_q (s := s) hw
  refine ⟨fun i => ?_, fun i hi => ?_, ⟨fun i hi => ?_, fun i hi => ?_, fun i hi => ?_⟩, fun x hx hl => ?_⟩
  · dsimp only
    by_cases e : i = k0
    · rw [if_pos e]; omega
    · rw [if_neg e]; exact J.1 i
  · dsimp only
    by_cases e : i = k0
    · rw [if_pos e, e, pk_us]
    · rw [if_neg e, pk_un e]; exact J.2.1 i hi
  · dsimp only
    by_cases e : i = k0
    · rw [if_pos e, e, pk_us]; rfl
    · rw [if_neg e, pk_un e]; exact J.2.2.1.1 i hi
  · dsimp only
    by_cases e : i = k0
    · rw [if_pos e, e, pk_us, eq.1]
    · rw [if_neg e, pk_un e]; exact J.2.2.1.2.1 i hi
  · dsimp only
    by_cases e : i = k0
    · rw [if_pos e, e, pk_us, eq.2]
    · rw [if_neg e, pk_un e]; exact J.2.2.1.2.2 i hi
  · rw [fd_spA] at hT
    exact fd_takeC (fd_spcl p c 10) (fd_splt J.1 10) hT J.2.2.2 hw hn x ((fd_spu p c k0 (s * 256 + w) hf 10 hk x).mp hx) hl
theorem i_vc_take {k : Nat} {u : SX} {v : SY} (I : i_Rel k u v) (hk : k + 3 ≤ 1536) (v1 : Int32) (v2 : Int32) : wpX_take (fun r u' => wpY_take (fun r' v' => r' = r ∧ i_Rel (k + 3) u' v') v v1 v2) u v1 v2 := by
  obtain ⟨p, c, ap, ar, ath, ase, ava, T, rfl, rfl, J⟩ := I
  by_cases a0 : v1 < 1
  · unfold wpX_take wpY_take
    dsimp only
    exact br_t a0 (br_t rfl (br_t a0 (br_t rfl ⟨rfl, fd_rel J⟩)))
  by_cases a1 : 255 < v1
  · unfold wpX_take wpY_take
    dsimp only
    exact br_f a0 (br_t a1 (br_t rfl (br_f a0 (br_t a1 (br_t rfl ⟨rfl, fd_rel J⟩)))))
  by_cases b0 : v2 < 0
  · unfold wpX_take wpY_take
    dsimp only
    exact br_f a0 (br_f a1 (br_f (by decide) (br_t b0 (br_t rfl (br_f a0 (br_f a1 (br_f (by decide) (br_t b0 (br_t rfl ⟨rfl, fd_rel J⟩)))))))))
  by_cases b1 : 255 < v2
  · unfold wpX_take wpY_take
    dsimp only
    exact br_f a0 (br_f a1 (br_f (by decide) (br_f b0 (br_t b1 (br_t rfl (br_f a0 (br_f a1 (br_f (by decide) (br_f b0 (br_t b1 (br_t rfl ⟨rfl, fd_rel J⟩)))))))))))
  obtain ⟨s, hs1, hs, rfl⟩ := fd_r1 a0 a1
  obtain ⟨w, hw, rfl⟩ := fd_r0 b0 b1
  by_cases full : ∀ j, j < 10 → c j = true
  · unfold wpX_take wpY_take
    dsimp only
    refine br_f a0 (br_f a1 (br_f (by decide) (br_f b0 (br_f b1 (br_f (by decide) (br_t ((fd_kfull c).mpr full) ?_))))))
    refine br_f a0 (br_f a1 (br_f (by decide) (br_f b0 (br_f b1 (br_f (by decide) ?_)))))
    refine fy_work 1023 J.1 J.2.2.1 (fun T' hT => ?_)
    exact ⟨_, fy_take_full J.2.2.1.1 full ⟨rfl, fd_rel J⟩ 10 0 (by omega)⟩
  · refine fx_take hs1 hs hw J.1 J.2.1 full (fun ar' => ⟨fun rf => ?_, fun rf k0 hk0 hf hl => ?_⟩)
    · obtain ⟨k0, hk0, hf, hl⟩ : ∃ k0, k0 < 10 ∧ c k0 = false ∧ ∀ j, j < k0 → c j = true := (fd_free c 10).elim (fun z => absurd z full) id
      unfold wpY_take
      dsimp only
      refine br_f a0 (br_f a1 (br_f (by decide) (br_f b0 (br_f b1 (br_f (by decide) ?_)))))
      refine fy_work 1023 J.1 J.2.2.1 (fun T' hT => ?_)
      have ti := (fd_takeI (fd_rowsE _ J.1 10) (fd_spcl p _ 10) (fd_splt J.1 10) hT (fd_conA J.2.2.2) hs hw).mp rf
      exact ⟨_, fy_take_l hs J.2.2.1.1 hk0 hf hl (fun _ => ⟨rfl, fd_rel J⟩) (fun z => absurd ti z) k0 0 (Nat.zero_add _)⟩
    · unfold wpY_take
      dsimp only
      refine br_f a0 (br_f a1 (br_f (by decide) (br_f b0 (br_f b1 (br_f (by decide) ?_)))))
      refine fy_work 1023 J.1 J.2.2.1 (fun T' hT => ?_)
      have tn : ¬ (¬ T' s < 0 ∧ ¬ T' s = nI w) := fun z => rf ((fd_takeI (fd_rowsE _ J.1 10) (fd_spcl p _ 10) (fd_splt J.1 10) hT (fd_conA J.2.2.2) hs hw).mpr z)
      exact ⟨_, fy_take_l hs J.2.2.1.1 hk0 hf hl (fun z => absurd z tn) (fun _ => ⟨rfl, fd_rel (fd_Jtake J hT hs hw hk0 hf tn)⟩) k0 0 (Nat.zero_add _)⟩
end
