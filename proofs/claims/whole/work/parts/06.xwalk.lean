/-! ===== ranges ===== -/
theorem fd_ix (n : Nat) (hn : n + 1 < 2 ^ 31) (x : Int32) : x < 0 ∨ (¬ x < 0 ∧ nI (n + 1) ≤ x ∧ nI n < x) ∨ (∃ j, j < n + 1 ∧ x = nI j ∧ ¬ x < 0 ∧ ¬ nI (n + 1) ≤ x ∧ ¬ nI n < x) := by
  by_cases h : x < 0
  · exact Or.inl h
  · obtain ⟨j, hj, rfl⟩ := nI_of h
    rw [nI_leI hn hj, nI_ltI (show n < 2 ^ 31 by omega) hj]
    by_cases c : j < n + 1
    · exact Or.inr (Or.inr ⟨j, c, rfl, h, by omega, by omega⟩)
    · exact Or.inr (Or.inl ⟨h, by omega, by omega⟩)
theorem fd_r1 {x : Int32} (h0 : ¬ x < 1) (h1 : ¬ 255 < x) : ∃ s, 1 ≤ s ∧ s < 256 ∧ x = nI s := by
  have h : ¬ x < 0 := fun z => h0 (Int32.lt_trans z (by decide))
  obtain ⟨j, hj, rfl⟩ := nI_of h
  have t0 : ¬ nI j < nI 1 := h0
  have t1 : ¬ nI 255 < nI j := h1
  rw [nI_ltI hj (by decide)] at t0
  rw [nI_ltI (by decide) hj] at t1
  exact ⟨j, by omega, by omega, rfl⟩
theorem fd_r0 {x : Int32} (h0 : ¬ x < 0) (h1 : ¬ 255 < x) : ∃ s, s < 256 ∧ x = nI s := by
  obtain ⟨j, hj, rfl⟩ := nI_of h0
  have t1 : ¬ nI 255 < nI j := h1
  rw [nI_ltI (by decide) hj] at t1
  exact ⟨j, by omega, rfl⟩
theorem fd_p8 {i : Nat} (hi : i < 8) : 2 ^ i < 256 := Nat.pow_lt_pow_right (m := i) (n := 8) (by decide) hi
theorem fd_nt {t : Bool} (h : ¬ t = true) : t = false := by cases t <;> first | rfl | exact absurd rfl h
theorem fd_nf {t : Bool} (h : t = true) : ¬ t = false := by rw [h]; decide
theorem fd_redb {R : Nat → Nat} (hR : ∀ b, b < 8 → R b < 65536) : ∀ b q, b ≤ 8 → q < 65536 → fd_red R b q < 65536 := by
  intro b
  induction b with
  | zero => exact fun q _ hq => hq
  | succ b ih =>
    intro q hb hq
    have e0 : fd_red R (b + 1) q = fd_red R b (if q.testBit (8 + b) = true then q ^^^ R b else q) := rfl
    rw [e0]
    by_cases t : q.testBit (8 + b) = true
    · rw [if_pos t]
      exact ih _ (by omega) (Nat.xor_lt_two_pow (n := 16) hq (hR b (by omega)))
    · rw [if_neg t]
      exact ih _ (by omega) hq
/-! ===== the component's walks ===== -/
def fx_R (ar : Nat → Int32) (R : Nat → Nat) : Prop := ∀ b, b < 8 → ar b = nI (R b) ∧ R b < 65536
theorem fx_hp1 {post : Int32 → Prop} {q b : Nat} (hq : q < 65536) (hb : b < 8) (t : q.testBit (8 + b) = true) (h : post 1) : wpX_hasPiece post (nI q) (nI b) :=
  br_f (fun z => fd_nf t ((fd_hp hq hb).mp z)) h
theorem fx_hp0 {post : Int32 → Prop} {q b : Nat} (hq : q < 65536) (hb : b < 8) (t : ¬ q.testBit (8 + b) = true) (h : post 0) : wpX_hasPiece post (nI q) (nI b) :=
  br_t ((fd_hp hq hb).mpr (fd_nt t)) h
theorem fx_red_l {post : Int32 → Prop} {fk : Int32} {ap ar : Nat → Int32} {R : Nat → Nat} (hR : fx_R ar R) : ∀ b q, b ≤ 8 → q < 65536 → post (nI (fd_red R b q)) → wX_reduce_5 post fk ap ar (b + 1) (nI q) (nI b + (-1)) := by
  intro b
  induction b with
  | zero =>
    intro q _ _ h
    exact br_t (by decide) h
  | succ b ih =>
    intro q hb hq h
    have e0 : fd_red R (b + 1) q = fd_red R b (if q.testBit (8 + b) = true then q ^^^ R b else q) := rfl
    rw [e0] at h
    rw [pk_m1 b]
    have hn : ¬ nI b < 0 := nI_pos (by omega)
    have hin : vp_in (nI b) 8 := vp_in_nI (by omega) (by decide)
    refine br_f hn ?_
    by_cases t : q.testBit (8 + b) = true
    · rw [if_pos t] at h
      refine fx_hp1 hq (by omega) t (br_f (by decide) ⟨hin, fun y ey z ez => ?_⟩)
      rw [ez, ey, nI_clamp (by omega), (hR b (by omega)).1, nx_xor]
      exact ih _ (by omega) (Nat.xor_lt_two_pow (n := 16) hq (hR b (by omega)).2) h
    · rw [if_neg t] at h
      refine fx_hp0 hq (by omega) t (br_t rfl (fun z ez => ?_))
      rw [ez]
      exact ih q (by omega) hq h
theorem fx_7 : (7 : Int32) = nI 8 + (-1) := by decide
theorem fx_red {post : Int32 → Prop} {fk : Int32} {ap ar : Nat → Int32} {R : Nat → Nat} (hR : fx_R ar R) {q : Nat} (hq : q < 65536) (h : post (nI (fd_red R 8 q))) : wpX_reduce post (fk, ap, ar) (nI q) := by
  refine ⟨9, ?_⟩
  rw [fx_7]
  exact fx_red_l hR 8 q (by omega) hq h
theorem fx_add_l {post : SX → Prop} {fk : Int32} {ap ar : Nat → Int32} {R : Nat → Nat} (hR : fx_R ar R) : ∀ b q, b ≤ 8 → q < 65536 → (∀ ar' : Nat → Int32, (∀ j, j < 8 → ar' j = nI (fd_add R b q j)) → post (fk, ap, ar')) → wX_addRow_5 post fk ap ar (b + 1) (nI q) (nI b + (-1)) := by
  intro b
  induction b with
  | zero =>
    intro q _ _ h
    exact br_t (by decide) (h ar (fun j hj => (hR j hj).1))
  | succ b ih =>
    intro q hb hq h
    have e0 : fd_add R (b + 1) q = if q.testBit (8 + b) = true then (if R b = 0 then (fun j => if j = b then q else R j) else fd_add R b (q ^^^ R b)) else fd_add R b q := rfl
    rw [e0] at h
    rw [pk_m1 b]
    have hn : ¬ nI b < 0 := nI_pos (by omega)
    have hin : vp_in (nI b) 8 := vp_in_nI (by omega) (by decide)
    have hcl : (nI b).toNatClampNeg = b := nI_clamp (by omega)
    have hrb := hR b (by omega)
    refine br_f hn ?_
    by_cases t : q.testBit (8 + b) = true
    · rw [if_pos t] at h
      by_cases z0 : R b = 0
      · rw [if_pos z0] at h
        refine fx_hp1 hq (by omega) t (br_f (by decide) ⟨hin, br_t ?_ ⟨hin, fun a ea => ?_⟩⟩)
        · rw [hcl, hrb.1, z0]
          rfl
        · rw [ea, hcl]
          refine h _ (fun j hj => ?_)
          by_cases e : j = b
          · rw [e, pk_us]
            rw [if_pos rfl]
          · rw [pk_un e]
            rw [if_neg e]
            exact (hR j hj).1
      · rw [if_neg z0] at h
        refine fx_hp1 hq (by omega) t (br_f (by decide) ⟨hin, br_f ?_ ⟨hin, fun y ey z ez => ?_⟩⟩)
        · rw [hcl, hrb.1]
          exact nI_ne0 (by omega) (by omega)
        · rw [ez, ey, hcl, hrb.1, nx_xor]
          exact ih _ (by omega) (Nat.xor_lt_two_pow (n := 16) hq hrb.2) h
    · rw [if_neg t] at h
      refine fx_hp0 hq (by omega) t (br_t rfl (fun z ez => ?_))
      rw [ez]
      exact ih q (by omega) hq h
theorem fx_add {post : SX → Prop} {fk : Int32} {ap ar : Nat → Int32} {R : Nat → Nat} (hR : fx_R ar R) {q : Nat} (hq : q < 65536) (h : ∀ ar' : Nat → Int32, (∀ j, j < 8 → ar' j = nI (fd_add R 8 q j)) → post (fk, ap, ar')) : wpX_addRow post (fk, ap, ar) (nI q) := by
  refine ⟨9, ?_⟩
  rw [fx_7]
  exact fx_add_l hR 8 q (by omega) hq h
/-! ===== the rows of all chosen drops ===== -/
def fd_cc (c : Nat → Bool) (w : Int32) : Nat → Bool := fun k => c k && bt w k
theorem fx_rowsR {p : Nat → Nat} (hp : ∀ k, p k < 65536) (c : Nat → Bool) (n : Nat) {ar : Nat → Int32} (h : ∀ j, j < 8 → ar j = nI (fd_rows p c n j)) : fx_R ar (fd_rows p c n) := fun b hb => ⟨h b hb, fd_rowlt (fd_rowsE c hp n) hb⟩
theorem fx_fill_l {post : SX → Prop} {c : Nat → Bool} {p : Nat → Nat} {ap : Nat → Int32} (w : Int32) (hp : ∀ k, p k < 65536) (hap : ∀ k, k < 10 → ap k = nI (p k)) (h : ∀ ar' : Nat → Int32, (∀ j, j < 8 → ar' j = nI (fd_rows p (fd_cc c w) 10 j)) → post (nI (fd_pc c 10), ap, ar')) : ∀ d k (ar : Nat → Int32), k + d = 10 → (∀ j, j < 8 → ar j = nI (fd_rows p (fd_cc c w) k j)) → wX_fillRows_23 post w (d + 1) (nI k) (nI (fd_pc c 10)) ap ar := by
  intro d
  induction d with
  | zero =>
    intro k ar hk hr
    have e : k = 10 := by omega
    subst e
    exact br_t (by decide) (h ar hr)
  | succ d ih =>
    intro k ar hk hr
    have hk10 : k < 10 := by omega
    refine br_f (nI_ge (b := 10) hk10 (by decide)) ?_
    by_cases hc : fd_cc c w k = true
    · refine br_f (fun z => fd_nf hc ((fd_chosen c w hk10).mp z)) ⟨vp_in_nI hk10 (by decide), ?_⟩
      rw [nI_clamp (by omega), hap k hk10]
      refine fx_add (fx_rowsR hp (fd_cc c w) k hr) (hp k) (fun ar' hr' => ?_)
      intro y ey
      rw [ey, nI_1]
      refine ih (k + 1) ar' (by omega) (fun j hj => ?_)
      have e : fd_rows p (fd_cc c w) (k + 1) = fd_add (fd_rows p (fd_cc c w) k) 8 (p k) := if_pos hc
      rw [hr' j hj, e]
    · refine br_t ((fd_chosen c w hk10).mpr (fd_nt hc)) (fun y ey => ?_)
      rw [ey, nI_1]
      refine ih (k + 1) ar (by omega) (fun j hj => ?_)
      have e : fd_rows p (fd_cc c w) (k + 1) = fd_rows p (fd_cc c w) k := if_neg hc
      rw [hr j hj, e]
theorem fx_fill {post : SX → Prop} {c : Nat → Bool} {p : Nat → Nat} {ap ar : Nat → Int32} (w : Int32) (hp : ∀ k, p k < 65536) (hap : ∀ k, k < 10 → ap k = nI (p k)) (h : ∀ ar' : Nat → Int32, (∀ j, j < 8 → ar' j = nI (fd_rows p (fd_cc c w) 10 j)) → post (nI (fd_pc c 10), ap, ar')) : wpX_fillRows post (nI (fd_pc c 10), ap, ar) w := by
  have L : ∀ d i (ar : Nat → Int32), i + d = 8 → (∀ j, j < i → ar j = 0) → wX_fillRows_2 post w (nI (fd_pc c 10)) (d + 1) (nI i) ap ar := by
    intro d
    induction d with
    | zero =>
      intro i ar hi hz
      have e : i = 8 := by omega
      subst e
      exact br_t (by decide) ⟨11, fx_fill_l w hp hap h 10 0 ar (by omega) hz⟩
    | succ d ih =>
      intro i ar hi hz
      refine br_f (nI_ge (b := 8) (by omega) (by decide)) ⟨vp_in_nI (by omega) (by decide), fun a ea y ey => ?_⟩
      rw [ea, ey, nI_1, nI_clamp (by omega)]
      refine ih (i + 1) _ (by omega) (fun j hj => ?_)
      by_cases e : j = i
      · rw [e, pk_us]
      · rw [pk_un e]
        exact hz j (by omega)
  exact ⟨9, L 8 0 ar (by omega) (fun j hj => absurd hj (by omega))⟩
