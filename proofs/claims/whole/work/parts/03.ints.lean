/-! ===== ints by their bits ===== -/
theorem fd_bt {n i : Nat} (hi : i < 32) : bt (nI n) i = n.testBit i := by
  show (BitVec.ofNat 32 n).getLsbD i = _
  rw [BitVec.getLsbD_ofNat]
  simp [hi]
theorem fd_or (a b : Nat) : nI a ||| nI b = nI (a ||| b) := by
  apply b_ext
  intro i hi
  rw [b_or, fd_bt hi, fd_bt hi, fd_bt hi, Nat.testBit_or]
theorem fd_one {k i : Nat} (hk : k < 32) : bt ((1 : Int32) <<< (nI k &&& 31)) i = decide (k = i) := by
  unfold bt
  rw [nf_sh k hk, BitVec.getLsbD_twoPow, decide_eq_true hk, Bool.true_and]
theorem fd_one2 : ∀ k, k < 16 → (1 : Int32) <<< (nI k &&& 31) = nI (2 ^ k) := by decide +kernel
theorem fd_b1 (x : Int32) {k : Nat} (hk : k < 32) : (x &&& ((1 : Int32) <<< (nI k &&& 31))) = 0 ↔ bt x k = false := by
  constructor
  · intro h
    have t : bt (x &&& ((1 : Int32) <<< (nI k &&& 31))) k = bt 0 k := by rw [h]
    rw [b_and, fd_one hk, b_0, decide_eq_true rfl, Bool.and_true] at t
    exact t
  · intro h
    apply b_ext
    intro i _
    rw [b_and, fd_one hk, b_0]
    by_cases e : k = i
    · rw [← e, h, Bool.false_and]
    · rw [decide_eq_false e, Bool.and_false]
theorem fd_tb2 (q k : Nat) : nI (q / 2 ^ k) &&& 1 = nI (if q.testBit k = true then 1 else 0) := by
  show nI (q / 2 ^ k) &&& nI 1 = _
  rw [nx_and, Nat.and_one_is_mod, Nat.testBit_eq_decide_div_mod_eq]
  by_cases e : q / 2 ^ k % 2 = 1
  · rw [e, if_pos (decide_eq_true rfl)]
  · have e2 : q / 2 ^ k % 2 = 0 := by
      generalize q / 2 ^ k = z at e
      omega
    rw [e2, if_neg (by decide)]
theorem fd_sh {q k : Nat} (hq : q < 2 ^ 31) (hk : k < 32) : nI q >>> (nI k &&& 31) = nI (q / 2 ^ k) := pk_shrN hq _ k (s_l k hk)
theorem fd_bit {q k : Nat} (hq : q < 2 ^ 31) (hk : k < 32) : nI q >>> (nI k &&& 31) &&& 1 = nI (if q.testBit k = true then 1 else 0) := by rw [fd_sh hq hk, fd_tb2]
theorem fd_bz {t : Bool} : nI (if t = true then 1 else 0) = 0 ↔ t = false := by cases t <;> decide
theorem fd_bo {t : Bool} : nI (if t = true then 1 else 0) = 1 ↔ t = true := by cases t <;> decide
theorem fd_hp {q b : Nat} (hq : q < 65536) (hb : b < 8) : (nI q >>> (((8 : Int32) + nI b) &&& 31) &&& 1) = 0 ↔ q.testBit (8 + b) = false := by
  have e : (8 : Int32) + nI b = nI (8 + b) := nI_add 8 b
  rw [e, fd_bit (by omega) (by omega), fd_bz]
theorem fd_set {q : Nat} (hq : q < 65536) : nI q >>> ((8 : Int32) &&& 31) = nI (q / 256) := fd_sh (k := 8) (by omega) (by omega)
theorem fd_val (q : Nat) : nI q &&& 255 = nI (q % 256) := by
  show nI q &&& nI 255 = _
  rw [nx_and, show (255 : Nat) = 2 ^ 8 - 1 from rfl, Nat.and_two_pow_sub_one_eq_mod]
theorem fd_shl {s : Nat} (hs : s < 256) : nI s <<< ((8 : Int32) &&& 31) = nI (s * 256) := pk_shlN _ 8 (by decide) (by omega)
theorem fd_pack {s v : Nat} (hs : s < 256) (hv : v < 256) : (nI s <<< ((8 : Int32) &&& 31)) ||| nI v = nI (s * 256 + v) := by
  rw [fd_shl hs, fd_or]
  have t := Nat.two_pow_add_eq_or_of_lt (i := 8) (b := v) hv s
  rw [Nat.mul_comm] at t
  have t2 : s * 256 + v = s * 256 ||| v := t
  rw [t2]
/-! ===== a set of bits ===== -/
def fd_pc (g : Nat → Bool) : Nat → Nat
  | 0 => 0
  | n + 1 => if g n = true then fd_pc g n ||| 2 ^ n else fd_pc g n
theorem fd_pctb (g : Nat → Bool) (i : Nat) : ∀ n, (fd_pc g n).testBit i = (decide (i < n) && g i) := by
  intro n
  induction n with
  | zero => rw [show fd_pc g 0 = 0 from rfl, Nat.zero_testBit, decide_eq_false (by omega), Bool.false_and]
  | succ n ih =>
    have e0 : fd_pc g (n + 1) = if g n = true then fd_pc g n ||| 2 ^ n else fd_pc g n := rfl
    rcases Nat.lt_trichotomy i n with c | c | c
    · rw [decide_eq_true (show i < n + 1 by omega)]
      rw [decide_eq_true c] at ih
      by_cases h : g n = true
      · rw [e0, if_pos h, Nat.testBit_or, ih, Nat.testBit_two_pow_of_ne (by omega), Bool.or_false]
      · rw [e0, if_neg h, ih]
    · rw [decide_eq_true (show i < n + 1 by omega)]
      rw [decide_eq_false (by omega)] at ih
      by_cases h : g n = true
      · rw [e0, if_pos h, Nat.testBit_or, c, Nat.testBit_two_pow_self, h, Bool.or_true]; rfl
      · rw [e0, if_neg h, ih, c]
        cases hg : g n
        · rfl
        · exact absurd hg h
    · rw [decide_eq_false (show ¬ i < n + 1 by omega)]
      rw [decide_eq_false (show ¬ i < n by omega)] at ih
      by_cases h : g n = true
      · rw [e0, if_pos h, Nat.testBit_or, ih, Nat.testBit_two_pow_of_ne (by omega)]; rfl
      · rw [e0, if_neg h, ih]
theorem fd_pclt (g : Nat → Bool) (n : Nat) : fd_pc g n < 2 ^ n := by
  apply Nat.lt_pow_two_of_testBit
  intro i hi
  rw [fd_pctb, decide_eq_false (by omega), Bool.false_and]
theorem fd_pcg {g h : Nat → Bool} (n : Nat) (e : ∀ k, k < n → g k = h k) : fd_pc g n = fd_pc h n := by
  apply Nat.eq_of_testBit_eq
  intro i
  rw [fd_pctb, fd_pctb]
  by_cases hi : i < n
  · rw [e i hi]
  · rw [decide_eq_false hi, Bool.false_and, Bool.false_and]
theorem fd_kb (c : Nat → Bool) (i : Nat) (hi : i < 32) : bt (nI (fd_pc c 10)) i = (decide (i < 10) && c i) := by rw [fd_bt hi, fd_pctb]
theorem fd_kept (c : Nat → Bool) {k : Nat} (hk : k < 10) : (nI (fd_pc c 10) &&& ((1 : Int32) <<< (nI k &&& 31))) = 0 ↔ c k = false := by
  rw [fd_b1 _ (by omega), fd_kb c k (by omega), decide_eq_true hk, Bool.true_and]
theorem fd_chosen (c : Nat → Bool) (w : Int32) {k : Nat} (hk : k < 10) : ((nI (fd_pc c 10) &&& w) &&& ((1 : Int32) <<< (nI k &&& 31))) = 0 ↔ (c k && bt w k) = false := by
  rw [fd_b1 _ (by omega), b_and, fd_kb c k (by omega), decide_eq_true hk, Bool.true_and]
theorem fd_ktake (c : Nat → Bool) {k : Nat} (hk : k < 10) : nI (fd_pc c 10) ||| ((1 : Int32) <<< (nI k &&& 31)) = nI (fd_pc (fun j => if j = k then true else c j) 10) := by
  apply b_ext
  intro i hi
  rw [b_or, fd_kb c i hi, fd_kb _ i hi, fd_one (by omega)]
  by_cases e : k = i
  · rw [decide_eq_true e, if_pos e.symm, decide_eq_true (show i < 10 by omega), Bool.or_true]; rfl
  · rw [decide_eq_false e, if_neg (fun h => e h.symm), Bool.or_false]
theorem fd_kdrop (c : Nat → Bool) {k : Nat} (hk : k < 10) : nI (fd_pc c 10) &&& (((1 : Int32) <<< (nI k &&& 31)) ^^^ (-1)) = nI (fd_pc (fun j => if j = k then false else c j) 10) := by
  apply b_ext
  intro i hi
  rw [b_and, b_xor, fd_kb c i hi, fd_kb _ i hi, fd_one (by omega), b_m1 i hi]
  by_cases e : k = i
  · rw [decide_eq_true e, if_pos e.symm, Bool.and_false]; exact Bool.and_false _
  · rw [decide_eq_false e, if_neg (fun h => e h.symm)]; exact Bool.and_true _
theorem fd_1023 : ∀ i, i < 32 → bt 1023 i = decide (i < 10) := by decide +kernel
theorem fd_kfull (c : Nat → Bool) : nI (fd_pc c 10) = 1023 ↔ ∀ k, k < 10 → c k = true := by
  constructor
  · intro h k hk
    have t : bt (nI (fd_pc c 10)) k = bt 1023 k := by rw [h]
    rw [fd_kb c k (by omega), fd_1023 k (by omega), decide_eq_true hk, Bool.true_and] at t
    exact t
  · intro h
    apply b_ext
    intro i hi
    rw [fd_kb c i hi, fd_1023 i hi]
    by_cases e : i < 10
    · rw [h i e, Bool.and_true]
    · rw [decide_eq_false e, Bool.false_and]
theorem fd_notk {k j : Nat} (hk : k < 10) (hj : j < 10) : bt (((1 : Int32) <<< (nI k &&& 31)) ^^^ (-1)) j = bt (1023 &&& (((1 : Int32) <<< (nI k &&& 31)) ^^^ (-1))) j := by
  rw [b_and, fd_1023 j (by omega), decide_eq_true hj, Bool.true_and]
/-! ===== the table of known sums ===== -/
def fd_Tab (L : Nat → Prop) (T : Nat → Int32) : Prop := ∀ s, s < 256 → (T s = -1 ∧ ∀ x, L x → ¬ x / 256 = s) ∨ (∃ x, L x ∧ x / 256 = s ∧ T s = nI (x % 256))
theorem fd_m1 : (-1 : Int32) < 0 := by decide
theorem fd_Tneg {L : Nat → Prop} {T : Nat → Int32} (h : fd_Tab L T) {s : Nat} (hs : s < 256) : T s < 0 ↔ ¬ ∃ x, L x ∧ x / 256 = s := by
  rcases h s hs with ⟨e, n⟩ | ⟨x, hx, ex, e⟩
  · rw [e]
    exact ⟨fun _ => fun ⟨x, hx, ex⟩ => n x hx ex, fun _ => fd_m1⟩
  · rw [e]
    exact ⟨fun t => absurd t (nI_pos (by omega)), fun t => absurd ⟨x, hx, ex⟩ t⟩
theorem fd_Tval {L : Nat → Prop} {T : Nat → Int32} (h : fd_Tab L T) (hL : fd_cl L) (hc : fd_con L) {x : Nat} (hx : L x) (hl : x < 65536) : T (x / 256) = nI (x % 256) := by
  rcases h (x / 256) (by omega) with ⟨_, n⟩ | ⟨y, hy, ey, e⟩
  · exact absurd rfl (n x hx)
  · have t : (x ^^^ y) / 256 = 0 := by rw [fd_d, ey, Nat.xor_self]
    have t2 : x ^^^ y = 0 := hc _ (hL.2 _ _ hx hy) (by omega)
    rw [e, fd_x0 t2]
theorem fd_Tnone {L : Nat → Prop} {T : Nat → Int32} (h : fd_Tab L T) {s : Nat} (hs : s < 256) (hn : ¬ ∃ x, L x ∧ x / 256 = s) : T s = -1 := by
  rcases h s hs with ⟨e, _⟩ | ⟨x, hx, ex, _⟩
  · exact e
  · exact absurd ⟨x, hx, ex⟩ hn
def fd_g (T : Nat → Int32) (s : Nat) : Bool := decide (¬ T s < 0)
theorem fd_gi {L : Nat → Prop} {T : Nat → Int32} (h : fd_Tab L T) {s : Nat} (hs : s < 256) : fd_g T s = true ↔ ∃ x, L x ∧ x / 256 = s := by
  unfold fd_g
  rw [decide_eq_true_iff, fd_Tneg h hs]
  exact Classical.not_not
theorem fd_gt {T : Nat → Int32} {s : Nat} (h : ¬ T s < 0) : fd_g T s = true := decide_eq_true h
theorem fd_gf {T : Nat → Int32} {s : Nat} (h : T s < 0) : ¬ fd_g T s = true := by
  unfold fd_g
  rw [decide_eq_true_iff]
  exact fun t => t h
/-! ===== a new drop that agrees ===== -/
theorem fd_conx {L : Nat → Prop} (hL : fd_cl L) (hc : fd_con L) {q : Nat} (hq : ∀ y, L y → y / 256 = q / 256 → y = q) : fd_con (fun y => L y ∨ L (y ^^^ q)) := by
  intro x hx hl
  rcases hx with hx | hx
  · exact hc x hx hl
  · have t : (x ^^^ q) / 256 = q / 256 := by rw [fd_d, Nat.div_eq_of_lt hl, Nat.zero_xor]
    have t2 := hq _ hx t
    have t3 := fd_xc x q
    rw [t2, Nat.xor_self] at t3
    exact t3.symm
