/-! ===== rows in steps: row b is 0, or its greatest bit is 8 + b ===== -/
def fd_E (R : Nat → Nat) (L : Nat → Prop) : Prop := ∀ b, b < 8 → (R b = 0 ∧ ∀ x, L x → x < 2 ^ (8 + b + 1) → x < 2 ^ (8 + b)) ∨ (2 ^ (8 + b) ≤ R b ∧ R b < 2 ^ (8 + b + 1) ∧ L (R b))
def fd_red (R : Nat → Nat) : Nat → Nat → Nat
  | 0 => fun x => x
  | b + 1 => fun x => fd_red R b (if x.testBit (8 + b) = true then x ^^^ R b else x)
def fd_add (R : Nat → Nat) : Nat → Nat → Nat → Nat
  | 0 => fun _ => R
  | b + 1 => fun x => if x.testBit (8 + b) = true then (if R b = 0 then (fun j => if j = b then x else R j) else fd_add R b (x ^^^ R b)) else fd_add R b x
def fd_rows (p : Nat → Nat) (c : Nat → Bool) : Nat → Nat → Nat
  | 0 => fun _ => 0
  | k + 1 => if c k = true then fd_add (fd_rows p c k) 8 (p k) else fd_rows p c k
def fd_rk (R : Nat → Nat) : Nat → Nat
  | 0 => 0
  | b + 1 => if R b = 0 then fd_rk R b else fd_rk R b + 1
theorem fd_pw (m n : Nat) (h : m ≤ n) : (2 : Nat) ^ m ≤ 2 ^ n := Nat.pow_le_pow_right (by decide) h
theorem fd_Ec {R : Nat → Nat} {L L' : Nat → Prop} (h : fd_E R L) (e : ∀ x, L' x ↔ L x) : fd_E R L' := by
  intro b hb
  rcases h b hb with ⟨z, h1⟩ | ⟨h1, h2, h3⟩
  · exact Or.inl ⟨z, fun x hx => h1 x ((e x).mp hx)⟩
  · exact Or.inr ⟨h1, h2, (e _).mpr h3⟩
theorem fd_red1 {R : Nat → Nat} {L : Nat → Prop} (hE : fd_E R L) (hL : fd_cl L) : ∀ b x, b ≤ 8 → ∃ y, L y ∧ fd_red R b x = x ^^^ y := by
  intro b
  induction b with
  | zero => exact fun x _ => ⟨0, hL.1, (Nat.xor_zero x).symm⟩
  | succ b ih =>
    intro x hb
    have e0 : fd_red R (b + 1) x = fd_red R b (if x.testBit (8 + b) = true then x ^^^ R b else x) := rfl
    by_cases h : x.testBit (8 + b) = true
    · obtain ⟨y, hy, e⟩ := ih (x ^^^ R b) (by omega)
      have hR : L (R b) := by
        rcases hE b (by omega) with ⟨z, _⟩ | ⟨_, _, z⟩
        · rw [z]; exact hL.1
        · exact z
      refine ⟨R b ^^^ y, hL.2 _ _ hR hy, ?_⟩
      rw [e0, if_pos h, e, Nat.xor_assoc]
    · obtain ⟨y, hy, e⟩ := ih x (by omega)
      refine ⟨y, hy, ?_⟩
      rw [e0, if_neg h, e]
theorem fd_red2 {R : Nat → Nat} {L : Nat → Prop} (hE : fd_E R L) (hL : fd_cl L) : ∀ b x, b ≤ 8 → L x → x < 2 ^ (8 + b) → fd_red R b x < 256 := by
  intro b
  induction b with
  | zero =>
    intro x _ _ hx
    exact hx
  | succ b ih =>
    intro x hb hLx hx
    have hx : x < 2 ^ (8 + b + 1) := hx
    have e0 : fd_red R (b + 1) x = fd_red R b (if x.testBit (8 + b) = true then x ^^^ R b else x) := rfl
    by_cases h : x.testBit (8 + b) = true
    · rw [e0, if_pos h]
      have h1 := Nat.ge_two_pow_of_testBit h
      rcases hE b (by omega) with ⟨_, z⟩ | ⟨z1, z2, z3⟩
      · exact absurd (z x hLx hx) (Nat.not_lt.mpr h1)
      · exact ih _ (by omega) (hL.2 _ _ hLx z3) (fd_x2 h1 hx z1 z2)
    · rw [e0, if_neg h]
      exact ih _ (by omega) hLx (fd_tbn hx h)
theorem fd_red3 (R : Nat → Nat) {z : Nat} (hz : z < 256) : ∀ b x, fd_red R b (x ^^^ z) = fd_red R b x ^^^ z := by
  intro b
  induction b with
  | zero => exact fun x => rfl
  | succ b ih =>
    intro x
    have h8 : (2 : Nat) ^ 8 ≤ 2 ^ (8 + b) := fd_pw _ _ (by omega)
    have hb : z.testBit (8 + b) = false := Nat.testBit_lt_two_pow (Nat.lt_of_lt_of_le hz h8)
    have e : (x ^^^ z).testBit (8 + b) = x.testBit (8 + b) := by rw [Nat.testBit_xor, hb, Bool.xor_false]
    have e0 : fd_red R (b + 1) x = fd_red R b (if x.testBit (8 + b) = true then x ^^^ R b else x) := rfl
    have e1 : fd_red R (b + 1) (x ^^^ z) = fd_red R b (if (x ^^^ z).testBit (8 + b) = true then (x ^^^ z) ^^^ R b else x ^^^ z) := rfl
    rw [e0, e1, e]
    by_cases h : x.testBit (8 + b) = true
    · rw [if_pos h, if_pos h, fd_xr, ih]
    · rw [if_neg h, if_neg h, ih]
theorem fd_redL {R : Nat → Nat} {L : Nat → Prop} (hE : fd_E R L) (hL : fd_cl L) (hb : ∀ x, L x → x < 65536) (q : Nat) : ∃ y, L y ∧ fd_red R 8 q = q ^^^ y ∧ (fd_red R 8 q < 256 → y / 256 = q / 256) ∧ ((∃ x, L x ∧ x / 256 = q / 256) → fd_red R 8 q < 256) := by
  obtain ⟨y, hy, e⟩ := fd_red1 hE hL 8 q (by omega)
  refine ⟨y, hy, e, fun h => ?_, ?_⟩
  · have t : (q ^^^ y) / 256 = 0 := by rw [← e]; exact Nat.div_eq_of_lt h
    rw [fd_d] at t
    exact (fd_x0 t).symm
  · rintro ⟨x, hx, ex⟩
    have hz : (x ^^^ q) < 256 := by
      have t : (x ^^^ q) / 256 = 0 := by rw [fd_d, ex, Nat.xor_self]
      omega
    have e2 : q = x ^^^ (x ^^^ q) := (fd_xl x q).symm
    rw [e2, fd_red3 R hz]
    exact Nat.xor_lt_two_pow (n := 8) (fd_red2 hE hL 8 x (by omega) hx (hb x hx)) hz
theorem fd_addE {R : Nat → Nat} {L : Nat → Prop} (hE : fd_E R L) (hL : fd_cl L) : ∀ b x, b ≤ 8 → x < 2 ^ (8 + b) → fd_E (fd_add R b x) (fun y => L y ∨ L (y ^^^ x)) := by
  intro b
  induction b with
  | zero =>
    intro x _ hx j hj
    have hx : x < 2 ^ 8 := hx
    have h8 := fd_pw 8 (8 + j) (by omega)
    have h9 := fd_pw (8 + j) (8 + j + 1) (by omega)
    rcases hE j hj with ⟨z, h1⟩ | ⟨h1, h2, h3⟩
    · refine Or.inl ⟨z, fun y hy hlt => ?_⟩
      rcases hy with hy | hy
      · exact h1 y hy hlt
      · have t := h1 _ hy (Nat.xor_lt_two_pow hlt (Nat.lt_of_lt_of_le hx (Nat.le_trans h8 h9)))
        have t2 := Nat.xor_lt_two_pow t (Nat.lt_of_lt_of_le hx h8)
        rw [fd_xc] at t2
        exact t2
    · exact Or.inr ⟨h1, h2, Or.inl h3⟩
  | succ b ih =>
    intro x hb hx
    have hx : x < 2 ^ (8 + b + 1) := hx
    have e0 : fd_add R (b + 1) x = if x.testBit (8 + b) = true then (if R b = 0 then (fun j => if j = b then x else R j) else fd_add R b (x ^^^ R b)) else fd_add R b x := rfl
    by_cases h : x.testBit (8 + b) = true
    · have hx1 : 2 ^ (8 + b) ≤ x := Nat.ge_two_pow_of_testBit h
      by_cases hz : R b = 0
      · rw [e0, if_pos h, if_pos hz]
        have hbE : ∀ y, L y → y < 2 ^ (8 + b + 1) → y < 2 ^ (8 + b) := by
          rcases hE b (by omega) with ⟨_, t⟩ | ⟨t, _, _⟩
          · exact t
          · rw [hz] at t
            exact absurd (Nat.two_pow_pos (8 + b)) (Nat.not_lt.mpr t)
        intro j hj
        by_cases hjb : j = b
        · have ej : (if j = b then x else R j) = x := if_pos hjb
          dsimp only
          rw [ej]
          refine Or.inr ⟨by rw [hjb]; exact hx1, by rw [hjb]; exact hx, Or.inr ?_⟩
          rw [Nat.xor_self]
          exact hL.1
        · have ej : (if j = b then x else R j) = R j := if_neg hjb
          dsimp only
          rw [ej]
          rcases hE j hj with ⟨z, h1⟩ | ⟨h1, h2, h3⟩
          · refine Or.inl ⟨z, fun y hy hlt => ?_⟩
            rcases hy with hy | hy
            · exact h1 y hy hlt
            · rcases Nat.lt_or_gt_of_ne hjb with c | c
              · have q1 := fd_pw (8 + j + 1) (8 + b) (by omega)
                have q2 := fd_pw (8 + b) (8 + b + 1) (by omega)
                have hy1 : y < 2 ^ (8 + b) := Nat.lt_of_lt_of_le hlt q1
                have t := hbE _ hy (Nat.xor_lt_two_pow (Nat.lt_of_lt_of_le hy1 q2) hx)
                have t2 := Nat.xor_lt_two_pow t hy1
                rw [fd_xr, Nat.xor_self, Nat.zero_xor] at t2
                exact absurd t2 (Nat.not_lt.mpr hx1)
              · have q1 := fd_pw (8 + b + 1) (8 + j) (by omega)
                have q2 := fd_pw (8 + j) (8 + j + 1) (by omega)
                have hx2 : x < 2 ^ (8 + j) := Nat.lt_of_lt_of_le hx q1
                have t := h1 _ hy (Nat.xor_lt_two_pow hlt (Nat.lt_of_lt_of_le hx2 q2))
                have t2 := Nat.xor_lt_two_pow t hx2
                rw [fd_xc] at t2
                exact t2
          · exact Or.inr ⟨h1, h2, Or.inl h3⟩
      · rw [e0, if_pos h, if_neg hz]
        rcases hE b (by omega) with ⟨t, _⟩ | ⟨z1, z2, z3⟩
        · exact absurd t hz
        · refine fd_Ec (ih (x ^^^ R b) (by omega) (fd_x2 hx1 hx z1 z2)) (fun y => or_congr Iff.rfl ?_)
          rw [← Nat.xor_assoc]
          refine ⟨fun t => hL.2 _ _ t z3, fun t => ?_⟩
          have t2 := hL.2 _ _ t z3
          rw [fd_xc] at t2
          exact t2
    · rw [e0, if_neg h]
      exact ih x (by omega) (fd_tbn hx h)
theorem fd_clx {L : Nat → Prop} (hL : fd_cl L) (q : Nat) : fd_cl (fun y => L y ∨ L (y ^^^ q)) := by
  refine ⟨Or.inl hL.1, fun x y hx hy => ?_⟩
  show L (x ^^^ y) ∨ L ((x ^^^ y) ^^^ q)
  rcases hx with hx | hx
  · rcases hy with hy | hy
    · exact Or.inl (hL.2 _ _ hx hy)
    · refine Or.inr ?_
      rw [Nat.xor_assoc]
      exact hL.2 _ _ hx hy
  · rcases hy with hy | hy
    · refine Or.inr ?_
      rw [fd_xr]
      exact hL.2 _ _ hx hy
    · refine Or.inl ?_
      have t := hL.2 _ _ hx hy
      rw [Nat.xor_comm y q, ← Nat.xor_assoc, fd_xc] at t
      exact t
theorem fd_rowsE {p : Nat → Nat} (c : Nat → Bool) (hp : ∀ k, p k < 65536) : ∀ n, fd_E (fd_rows p c n) (fd_sp p c n) := by
  intro n
  induction n with
  | zero =>
    intro b _
    refine Or.inl ⟨rfl, fun x hx _ => ?_⟩
    have hx : x = 0 := hx
    rw [hx]
    exact Nat.two_pow_pos _
  | succ n ih =>
    by_cases h : c n = true
    · have e : fd_rows p c (n + 1) = fd_add (fd_rows p c n) 8 (p n) := if_pos h
      rw [e]
      exact fd_Ec (fd_addE ih (fd_spcl p c n) 8 (p n) (by omega) (hp n)) (fun x => ⟨fun t => t.elim Or.inl (fun t => Or.inr t.2), fun t => t.elim Or.inl (fun t => Or.inr ⟨h, t⟩)⟩)
    · have e : fd_rows p c (n + 1) = fd_rows p c n := if_neg h
      rw [e]
      exact fd_Ec ih (fun x => ⟨fun t => t.elim id (fun t => absurd t.1 h), Or.inl⟩)
theorem fd_rowsg {p : Nat → Nat} {c c' : Nat → Bool} : ∀ n, (∀ k, k < n → c k = c' k) → fd_rows p c n = fd_rows p c' n := by
  intro n
  induction n with
  | zero => exact fun _ => rfl
  | succ n ih =>
    intro h
    show (if c n = true then fd_add (fd_rows p c n) 8 (p n) else fd_rows p c n) = (if c' n = true then fd_add (fd_rows p c' n) 8 (p n) else fd_rows p c' n)
    rw [ih (fun k hk => h k (by omega)), h n (by omega)]
/-! ===== the greatest number that a row may hold ===== -/
theorem fd_rowlt {R : Nat → Nat} {L : Nat → Prop} (hE : fd_E R L) {b : Nat} (hb : b < 8) : R b < 65536 := by
  rcases hE b hb with ⟨z, _⟩ | ⟨_, z, _⟩
  · rw [z]; decide
  · exact Nat.lt_of_lt_of_le z (fd_pw _ 16 (by omega))
/-! ===== counting ===== -/
def fd_ct (g : Nat → Bool) : Nat → Nat
  | 0 => 0
  | n + 1 => if g n = true then fd_ct g n + 1 else fd_ct g n
theorem fd_ctg {g h : Nat → Bool} : ∀ n, (∀ k, k < n → g k = h k) → fd_ct g n = fd_ct h n := by
  intro n
  induction n with
  | zero => exact fun _ => rfl
  | succ n ih =>
    intro e
    show (if g n = true then fd_ct g n + 1 else fd_ct g n) = (if h n = true then fd_ct h n + 1 else fd_ct h n)
    rw [ih (fun k hk => e k (by omega)), e n (by omega)]
theorem fd_ctle (g : Nat → Bool) : ∀ n, fd_ct g n ≤ n := by
  intro n
  induction n with
  | zero => exact Nat.le_refl 0
  | succ n ih =>
    show (if g n = true then fd_ct g n + 1 else fd_ct g n) ≤ n + 1
    by_cases h : g n = true
    · rw [if_pos h]; omega
    · rw [if_neg h]; omega
theorem fd_cta (g : Nat → Bool) (m : Nat) : ∀ n, fd_ct g (m + n) = fd_ct g m + fd_ct (fun s => g (m + s)) n := by
  intro n
  induction n with
  | zero => exact rfl
  | succ n ih =>
    show (if g (m + n) = true then fd_ct g (m + n) + 1 else fd_ct g (m + n)) = fd_ct g m + (if g (m + n) = true then fd_ct (fun s => g (m + s)) n + 1 else fd_ct (fun s => g (m + s)) n)
    rw [ih]
    by_cases h : g (m + n) = true
    · rw [if_pos h, if_pos h]; omega
    · rw [if_neg h, if_neg h]
theorem fd_ct0 {g : Nat → Bool} : ∀ n, (∀ k, k < n → ¬ g k = true) → fd_ct g n = 0 := by
  intro n
  induction n with
  | zero => exact fun _ => rfl
  | succ n ih =>
    intro e
    show (if g n = true then fd_ct g n + 1 else fd_ct g n) = 0
    rw [if_neg (e n (by omega)), ih (fun k hk => e k (by omega))]
theorem fd_pa {s n : Nat} (h : s < 2 ^ n) : 2 ^ n + s = s ^^^ 2 ^ n := by
  apply Nat.eq_of_testBit_eq
  intro i
  rw [Nat.testBit_xor]
  rcases Nat.lt_trichotomy i n with c | c | c
  · rw [Nat.testBit_two_pow_add_gt c, Nat.testBit_two_pow_of_ne (by omega), Bool.xor_false]
  · rw [c, Nat.testBit_two_pow_add_eq, Nat.testBit_two_pow_self, Bool.xor_true]
  · have h2 : (2 : Nat) ^ (n + 1) = 2 ^ n * 2 := by rw [Nat.pow_succ]
    have h3 := fd_pw (n + 1) i c
    rw [Nat.testBit_lt_two_pow (show 2 ^ n + s < 2 ^ i by omega), Nat.testBit_lt_two_pow (show s < 2 ^ i by omega), Nat.testBit_two_pow_of_ne (by omega)]
    rfl
theorem fd_ctx : ∀ b (g : Nat → Bool) r, r < 2 ^ b → fd_ct (fun s => g (s ^^^ r)) (2 ^ b) = fd_ct g (2 ^ b) := by
  intro b
  induction b with
  | zero =>
    intro g r hr
    have hr : r = 0 := by have hr : r < 1 := hr; omega
    rw [hr]
    exact fd_ctg _ (fun k _ => by rw [Nat.xor_zero])
  | succ b ih =>
    intro g r hr
    have h2 : (2 : Nat) ^ (b + 1) = 2 ^ b + 2 ^ b := by rw [Nat.pow_succ]; omega
    rw [h2, fd_cta, fd_cta g]
    by_cases h : r < 2 ^ b
    · have e : fd_ct (fun s => g ((2 ^ b + s) ^^^ r)) (2 ^ b) = fd_ct (fun s => (fun t => g (2 ^ b + t)) (s ^^^ r)) (2 ^ b) := by
        refine fd_ctg _ (fun s hs => ?_)
        show g ((2 ^ b + s) ^^^ r) = g (2 ^ b + (s ^^^ r))
        rw [fd_pa hs, fd_pa (Nat.xor_lt_two_pow hs h), fd_xr]
      rw [e, ih g r h, ih (fun t => g (2 ^ b + t)) r h]
    · have hr' : r - 2 ^ b < 2 ^ b := by omega
      have er : r = (r - 2 ^ b) ^^^ 2 ^ b := by rw [← fd_pa hr']; omega
      have e1 : fd_ct (fun s => g (s ^^^ r)) (2 ^ b) = fd_ct (fun s => (fun t => g (2 ^ b + t)) (s ^^^ (r - 2 ^ b))) (2 ^ b) := by
        refine fd_ctg _ (fun s hs => ?_)
        show g (s ^^^ r) = g (2 ^ b + (s ^^^ (r - 2 ^ b)))
        rw [fd_pa (Nat.xor_lt_two_pow hs hr'), Nat.xor_assoc, ← er]
      have e2 : fd_ct (fun s => g ((2 ^ b + s) ^^^ r)) (2 ^ b) = fd_ct (fun s => g (s ^^^ (r - 2 ^ b))) (2 ^ b) := by
        refine fd_ctg _ (fun s hs => ?_)
        show g ((2 ^ b + s) ^^^ r) = g (s ^^^ (r - 2 ^ b))
        have t : (2 ^ b + s) ^^^ r = s ^^^ (r - 2 ^ b) := by
          rw [fd_pa hs]
          generalize hw : r - 2 ^ b = w at er
          rw [er, ← Nat.xor_assoc, fd_xr s (2 ^ b) w, fd_xc]
        rw [t]
      rw [e1, e2, ih g _ hr', ih (fun t => g (2 ^ b + t)) _ hr', Nat.add_comm]
theorem fd_count {R : Nat → Nat} {L : Nat → Prop} (hE : fd_E R L) (hL : fd_cl L) {g : Nat → Bool} (hg : ∀ s, s < 256 → (g s = true ↔ ∃ x, L x ∧ x / 256 = s)) : ∀ b, b ≤ 8 → fd_ct g (2 ^ b) = 2 ^ fd_rk R b := by
  intro b
  induction b with
  | zero =>
    intro _
    have h0 : g 0 = true := (hg 0 (by omega)).mpr ⟨0, hL.1, rfl⟩
    show (if g 0 = true then 0 + 1 else 0) = 1
    rw [if_pos h0]
  | succ b ih =>
    intro hb
    have h2 : (2 : Nat) ^ (b + 1) = 2 ^ b + 2 ^ b := by rw [Nat.pow_succ]; omega
    have h8 := fd_pw (b + 1) 8 (by omega)
    have ep : (2 : Nat) ^ (8 + b) = 256 * 2 ^ b := Nat.pow_add 2 8 b
    have ep1 : (2 : Nat) ^ (8 + b + 1) = 256 * (2 ^ b + 2 ^ b) := by rw [Nat.pow_succ, ep]; omega
    rw [h2, fd_cta, ih (by omega)]
    have er : fd_rk R (b + 1) = if R b = 0 then fd_rk R b else fd_rk R b + 1 := rfl
    rcases hE b (by omega) with ⟨z, h1⟩ | ⟨h1, h3, h4⟩
    · rw [er, if_pos z, fd_ct0, Nat.add_zero]
      intro s hs ht
      obtain ⟨x, hx, ex⟩ := (hg (2 ^ b + s) (by omega)).mp ht
      have t := h1 x hx (by omega)
      omega
    · have z : ¬ R b = 0 := by
        have := Nat.two_pow_pos (8 + b)
        omega
      rw [er, if_neg z]
      have hr1 : 2 ^ b ≤ R b / 256 := by omega
      have hr2 : R b / 256 < 2 ^ b + 2 ^ b := by omega
      have hr' : R b / 256 - 2 ^ b < 2 ^ b := by omega
      have e : fd_ct (fun s => g (2 ^ b + s)) (2 ^ b) = fd_ct (fun s => g (s ^^^ (R b / 256 - 2 ^ b))) (2 ^ b) := by
        refine fd_ctg _ (fun s hs => ?_)
        show g (2 ^ b + s) = g (s ^^^ (R b / 256 - 2 ^ b))
        have hw : s ^^^ (R b / 256 - 2 ^ b) < 2 ^ b := Nat.xor_lt_two_pow hs hr'
        have er2 : R b / 256 = (R b / 256 - 2 ^ b) ^^^ 2 ^ b := by rw [← fd_pa hr']; omega
        have k : (2 ^ b + s) ^^^ (R b / 256) = s ^^^ (R b / 256 - 2 ^ b) := by
          rw [fd_pa hs]
          generalize R b / 256 - 2 ^ b = w at er2
          rw [er2, ← Nat.xor_assoc, fd_xr s (2 ^ b) w, fd_xc]
        have k2 : (s ^^^ (R b / 256 - 2 ^ b)) ^^^ (R b / 256) = 2 ^ b + s := by rw [← k, fd_xc]
        apply Bool.eq_iff_iff.mpr
        rw [hg _ (by omega), hg _ (by omega)]
        constructor
        · rintro ⟨x, hx, ex⟩
          exact ⟨x ^^^ R b, hL.2 _ _ hx h4, by rw [fd_d, ex, k]⟩
        · rintro ⟨x, hx, ex⟩
          exact ⟨x ^^^ R b, hL.2 _ _ hx h4, by rw [fd_d, ex, k2]⟩
      rw [e, fd_ctx b g _ hr', ih (by omega), Nat.pow_succ]
      omega
theorem fd_rkle (R : Nat → Nat) : ∀ n, fd_rk R n ≤ n := by
  intro n
  induction n with
  | zero => exact Nat.le_refl 0
  | succ n ih =>
    show (if R n = 0 then fd_rk R n else fd_rk R n + 1) ≤ n + 1
    by_cases h : R n = 0
    · rw [if_pos h]; omega
    · rw [if_neg h]; omega
