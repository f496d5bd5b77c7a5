/-! ===== the relation ===== -/
def fd_J (p : Nat → Nat) (c : Nat → Bool) (ap ath ase ava : Nat → Int32) : Prop := (∀ k, p k < 65536) ∧ (∀ k, k < 10 → ap k = nI (p k)) ∧ fy_S p c ath ase ava ∧ fd_con (fd_sp p c 10)
def i_Rel (_ : Nat) (u : SX) (v : SY) : Prop := ∃ (p : Nat → Nat) (c : Nat → Bool) (ap ar ath ase ava T : Nat → Int32), u = (nI (fd_pc c 10), ap, ar) ∧ v = (ath, ase, ava, T) ∧ fd_J p c ap ath ase ava
theorem fd_rel {k : Nat} {p : Nat → Nat} {c : Nat → Bool} {ap ar ath ase ava T : Nat → Int32} (J : fd_J p c ap ath ase ava) : i_Rel k (nI (fd_pc c 10), ap, ar) (ath, ase, ava, T) := ⟨p, c, ap, ar, ath, ase, ava, T, rfl, rfl, J⟩
theorem fd_spn {p : Nat → Nat} : ∀ n x, fd_sp p (fun _ => false) n x → x = 0 := by
  intro n
  induction n with
  | zero => exact fun x hx => hx
  | succ n ih =>
    intro x hx
    have hx : fd_sp p (fun _ => false) n x ∨ (false = true ∧ fd_sp p (fun _ => false) n (x ^^^ p n)) := hx
    rcases hx with hx | ⟨hx, _⟩
    · exact ih x hx
    · exact absurd hx (by decide)
theorem fd_ccA (c : Nat → Bool) {k : Nat} (hk : k < 10) : fd_cc c 1023 k = c k := by
  unfold fd_cc
  rw [fd_1023 k (by omega), decide_eq_true hk, Bool.and_true]
theorem fd_spA (p : Nat → Nat) (c : Nat → Bool) : fd_sp p (fd_cc c 1023) 10 = fd_sp p c 10 := funext (fun x => propext (fd_spg 10 (fun _ _ => rfl) (fun k hk => fd_ccA c hk) x))
theorem fd_conA {p : Nat → Nat} {c : Nat → Bool} (h : fd_con (fd_sp p c 10)) : fd_con (fd_sp p (fd_cc c 1023) 10) := by rw [fd_spA]; exact h
theorem fx_gi {R : Nat → Nat} {i : Nat} : fx_g R i = true ↔ fd_red R 8 (2 ^ i * 256) < 256 := decide_eq_true_iff
/-! ===== sum and piece ===== -/
def fx_v (R : Nat → Nat) (s : Nat) : Int32 := if fd_red R 8 (s * 256) < 256 then nI (fd_red R 8 (s * 256) % 256) else -1
theorem fx_sum {post : Int32 → SX → Prop} {c : Nat → Bool} {p : Nat → Nat} {ap ar : Nat → Int32} {s : Nat} (hs : s < 256) (hp : ∀ k, p k < 65536) (hap : ∀ k, k < 10 → ap k = nI (p k)) (h : ∀ ar' : Nat → Int32, post (fx_v (fd_rows p (fd_cc c 1023) 10) s) (nI (fd_pc c 10), ap, ar')) : wpX_sum post (nI (fd_pc c 10), ap, ar) (nI s) := by
  unfold wpX_sum
  dsimp only
  refine br_f (nI_pos (by omega)) (br_t (nI_le (b := 255) (by omega) (by decide)) ?_)
  refine fx_fill 1023 hp hap (fun ar' hr => ?_)
  have hR := fx_rowsR hp (fd_cc c 1023) 10 hr
  have hq : s * 256 < 65536 := by omega
  have hb := fd_redb (fun b hb => (hR b hb).2) 8 (s * 256) (by omega) hq
  have h' := h ar'
  unfold fx_v at h'
  refine fx_pack0 hs (fx_red hR hq (fx_setOf hb ?_))
  by_cases t : fd_red (fd_rows p (fd_cc c 1023) 10) 8 (s * 256) < 256
  · rw [if_pos t] at h'
    exact br_t ((fd_dz hb).mpr t) (fx_valueOf h')
  · rw [if_neg t] at h'
    exact br_f (fun z => t ((fd_dz hb).mp z)) h'
theorem fx_piece {post : Int32 → SX → Prop} {c : Nat → Bool} {p : Nat → Nat} {ap ar : Nat → Int32} {i : Nat} (hi : i < 8) (hp : ∀ k, p k < 65536) (hap : ∀ k, k < 10 → ap k = nI (p k)) (h : ∀ ar' : Nat → Int32, post (fx_v (fd_rows p (fd_cc c 1023) 10) (2 ^ i)) (nI (fd_pc c 10), ap, ar')) : wpX_piece post (nI (fd_pc c 10), ap, ar) (nI i) := by
  unfold wpX_piece
  dsimp only
  refine br_f (nI_pos (by omega)) (br_f (nI_ge (b := 8) hi (by decide)) (br_f (by decide) ?_))
  rw [fd_one2 i (by omega)]
  exact fx_sum (fd_p8 hi) hp hap (fun ar' => h ar')
theorem fy_piece {post : Int32 → SY → Prop} {p : Nat → Nat} {c : Nat → Bool} {ath ase ava T : Nat → Int32} {i : Nat} (hi : i < 8) (hp : ∀ k, p k < 65536) (hS : fy_S p c ath ase ava) (h : ∀ T : Nat → Int32, fd_Tab (fd_sp p (fd_cc c 1023) 10) T → post (T (2 ^ i)) (ath, ase, ava, T)) : wpY_piece post (ath, ase, ava, T) (nI i) := by
  unfold wpY_piece
  dsimp only
  have h2 := fd_p8 hi
  refine fy_work 1023 hp hS (fun T' hT => ?_)
  refine br_f (nI_pos (by omega)) (br_f (nI_nlt (a := 7) (b := i) (by omega) (by decide)) ?_)
  rw [fd_one2 i (by omega), nI_clamp (show 2 ^ i < 2 ^ 31 by omega)]
  exact ⟨vp_in_nI h2 (by decide), h T' hT⟩
theorem fd_sv {p : Nat → Nat} {c : Nat → Bool} {T : Nat → Int32} (hp : ∀ k, p k < 65536) (hc : fd_con (fd_sp p c 10)) (hT : fd_Tab (fd_sp p (fd_cc c 1023) 10) T) {s : Nat} (hs : s < 256) : T s = fx_v (fd_rows p (fd_cc c 1023) 10) s := by
  have t := fd_sameval (fd_rowsE (fd_cc c 1023) hp 10) (fd_spcl p _ 10) (fd_splt hp 10) hT (fd_conA hc) hs
  unfold fx_v
  by_cases z : fd_red (fd_rows p (fd_cc c 1023) 10) 8 (s * 256) < 256
  · rw [if_pos z]; exact t.1 z
  · rw [if_neg z]; exact t.2 z
theorem fd_kwe {p : Nat → Nat} {c : Nat → Bool} {T : Nat → Int32} (hp : ∀ k, p k < 65536) (hT : fd_Tab (fd_sp p c 10) T) {s : Nat} (hs : s < 256) : fx_kw p c s = fd_ct (fy_w T s) 8 := by
  refine fd_ctg 8 (fun i hi => Bool.eq_iff_iff.mpr ?_)
  rw [fx_gi, fd_samew (fd_rowsE c hp 10) (fd_spcl p c 10) (fd_splt hp 10) hT hs (fd_p8 hi)]
  unfold fy_w
  rw [Bool.or_eq_true]
/-! ===== enough ===== -/
def fd_rr (p : Nat → Nat) (c : Nat → Bool) (w : Int32) : Nat := fd_rk (fd_rows p (fd_cc c w) 10) 8
theorem fd_rrle (p : Nat → Nat) (c : Nat → Bool) (w : Int32) : fd_rr p c w ≤ 8 := fd_rkle _ 8
theorem fx_enough {post : Int32 → SX → Prop} {c : Nat → Bool} {p : Nat → Nat} {ap ar : Nat → Int32} (w : Int32) (hp : ∀ k, p k < 65536) (hap : ∀ k, k < 10 → ap k = nI (p k)) (h : ∀ ar' : Nat → Int32, post (fy_b (decide (fd_rr p c w = fd_rr p c 1023))) (nI (fd_pc c 10), ap, ar')) : wpX_enough post (nI (fd_pc c 10), ap, ar) w := by
  unfold wpX_enough
  dsimp only
  have l1 := fd_rrle p c w
  have l2 := fd_rrle p c 1023
  refine fx_rank w hp hap (fun ar' => ?_)
  refine fx_rank 1023 hp hap (fun ar2 => ?_)
  have h' := h ar2
  refine pk_eq (fd_rr p c w) (fd_rr p c 1023) (fun e => ?_) (fun e => ?_)
  · rw [fy_b1 (decide_eq_true e)] at h'
    exact h'
  · rw [fy_b0 (fun z => e (of_decide_eq_true z))] at h'
    exact h'
theorem fd_sz {p : Nat → Nat} {c : Nat → Bool} {T : Nat → Int32} {w : Int32} (hp : ∀ k, p k < 65536) (hT : fd_Tab (fd_sp p (fd_cc c w) 10) T) : fd_ct (fd_g T) 256 = 2 ^ fd_rr p c w := fd_size (fd_rowsE (fd_cc c w) hp 10) (fd_spcl p _ 10) hT
theorem fy_enough {post : Int32 → SY → Prop} {p : Nat → Nat} {c : Nat → Bool} {ath ase ava T : Nat → Int32} (w : Int32) (hp : ∀ k, p k < 65536) (hS : fy_S p c ath ase ava) (h : ∀ T : Nat → Int32, post (fy_b (decide (fd_rr p c w = fd_rr p c 1023))) (ath, ase, ava, T)) : wpY_enough post (ath, ase, ava, T) w := by
  unfold wpY_enough
  dsimp only
  have l1 := fd_pw _ 8 (fd_rrle p c w)
  have l2 := fd_pw _ 8 (fd_rrle p c 1023)
  refine fy_work 1023 hp hS (fun T1 h1 => ?_)
  refine fy_size ?_
  refine fy_work w hp hS (fun T2 h2 => ?_)
  refine fy_size ?_
  have h' := h T2
  rw [fd_sz hp h1, fd_sz hp h2]
  refine pk_eq (2 ^ fd_rr p c w) (2 ^ fd_rr p c 1023) (fun e => ?_) (fun e => ?_)
  · rw [fy_b1 (decide_eq_true ((Nat.pow_right_inj (by decide)).mp e))] at h'
    exact h'
  · rw [fy_b0 (fun z => e (congrArg (fun n => 2 ^ n) (of_decide_eq_true z)))] at h'
    exact h'
