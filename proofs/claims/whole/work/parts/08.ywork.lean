/-! ===== the reference's walks: the table ===== -/
def fy_b (t : Bool) : Int32 := if t = true then 1 else 0
theorem fy_b0 {t : Bool} (h : ¬ t = true) : fy_b t = 0 := if_neg h
theorem fy_b1 {t : Bool} (h : t = true) : fy_b t = 1 := if_pos h
theorem fy_bz {t : Bool} : fy_b t = 0 ↔ t = false := by cases t <;> decide
theorem fy_bn {t : Bool} (h : t = true) : ¬ fy_b t = 0 := fun z => fd_nf h (fy_bz.mp z)
def fy_S (p : Nat → Nat) (c : Nat → Bool) (ath ase ava : Nat → Int32) : Prop := (∀ k, k < 10 → ath k = fy_b (c k)) ∧ (∀ k, k < 10 → ase k = nI (p k / 256)) ∧ (∀ k, k < 10 → ava k = nI (p k % 256))
theorem fy_76t {post : SY → Prop} {J24 : Int32 → (Nat → Int32) → (Nat → Int32) → (Nat → Int32) → (Nat → Int32) → Prop} {J54 : Int32 → Int32 → Int32 → Int32 → Prop} {x1 x2 x3 x4 : Int32} {ok : Bool} {k : Nat} {c : Nat → Bool} {ath ase ava T : Nat → Int32} (hk : k < 10) (ht : ath k = fy_b (c k)) (h : J54 (x3 ^^^ ase k) (x4 ^^^ ava k) (fy_b (ok && c k)) (nI (k + 1))) : wY_work_76 post J24 J54 x1 x2 x3 x4 (fy_b ok) (nI k) 1 ath ase ava T := by
  have hin : vp_in (nI k) 10 := vp_in_nI hk (by decide)
  have hcl : (nI k).toNatClampNeg = k := nI_clamp (by omega)
  have H : ∀ z0 : Int32, J54 (x3 ^^^ ase k) (x4 ^^^ ava k) z0 (nI (k + 1)) → wY_work_103 post J24 J54 x1 x2 x3 x4 (nI k) 1 z0 ath ase ava T := by
    intro z0 hz
    refine br_f (by decide) ⟨hin, ?_⟩
    rw [hcl]
    refine br_f (by decide) ⟨hin, fun y ey z ez => ?_⟩
    rw [ez, ey, hcl, nI_1]
    exact hz
  by_cases o : ok = true
  · rw [o, Bool.true_and] at h
    refine br_f (fy_bn o) (br_f (by decide) ⟨hin, ?_⟩)
    rw [hcl, ht]
    by_cases t : c k = true
    · refine br_f (fy_bn t) (H 1 ?_)
      rw [fy_b1 t] at h
      exact h
    · refine br_t (fy_b0 t) (H 0 ?_)
      rw [fy_b0 t] at h
      exact h
  · rw [fd_nt o, Bool.false_and] at h
    exact br_t (fy_b0 o) (H 0 h)
theorem fy_76f {post : SY → Prop} {J24 : Int32 → (Nat → Int32) → (Nat → Int32) → (Nat → Int32) → (Nat → Int32) → Prop} {J54 : Int32 → Int32 → Int32 → Int32 → Prop} {x1 x2 x3 x4 : Int32} {ok : Bool} {k : Nat} {ath ase ava T : Nat → Int32} (h : J54 x3 x4 (fy_b ok) (nI (k + 1))) : wY_work_76 post J24 J54 x1 x2 x3 x4 (fy_b ok) (nI k) 0 ath ase ava T := by
  have H : ∀ z0 : Int32, J54 x3 x4 z0 (nI (k + 1)) → wY_work_103 post J24 J54 x1 x2 x3 x4 (nI k) 0 z0 ath ase ava T := by
    intro z0 hz
    refine br_t rfl (br_t rfl (fun z ez => ?_))
    rw [ez, nI_1]
    exact hz
  by_cases o : ok = true
  · rw [fy_b1 o] at h
    exact br_f (fy_bn o) (br_t rfl (H 1 h))
  · rw [fy_b0 o] at h
    exact br_t (fy_b0 o) (H 0 h)
theorem fy_54 {post : SY → Prop} {J24 : Int32 → (Nat → Int32) → (Nat → Int32) → (Nat → Int32) → (Nat → Int32) → Prop} {x1 : Int32} {p : Nat → Nat} {c : Nat → Bool} {ath ase ava T : Nat → Int32} (hp : ∀ k, p k < 65536) (hS : fy_S p c ath ase ava) (a : Bool) {m : Nat} (hm : m < 1024) (h0 : ¬ fd_ok a c m 10 = true → J24 (nI (m + 1)) ath ase ava T) (h1 : fd_ok a c m 10 = true → J24 (nI (m + 1)) ath ase ava (upd T (fd_cx p m 10 / 256) (nI (fd_cx p m 10 % 256)))) : ∀ d k, k + d = 10 → wY_work_54 post J24 x1 (nI m) ath ase ava T (d + 1) (nI (fd_cx p m k / 256)) (nI (fd_cx p m k % 256)) (fy_b (fd_ok a c m k)) (nI k) := by
  intro d
  induction d with
  | zero =>
    intro k hk
    have e : k = 10 := by omega
    subst e
    refine br_t (by decide) ?_
    by_cases o : fd_ok a c m 10 = true
    · have hl := fd_cxlt hp m 10
      refine br_f (fy_bn o) ⟨vp_in_nI (by omega) (by decide), fun b eb y ey => ?_⟩
      rw [ey, eb, nI_1, nI_clamp (by omega)]
      exact h1 o
    · refine br_t (fy_b0 o) (fun y ey => ?_)
      rw [ey, nI_1]
      exact h0 o
  | succ d ih =>
    intro k hk
    have hk10 : k < 10 := by omega
    have t := ih (k + 1) (by omega)
    have eo : fd_ok a c m (k + 1) = (fd_ok a c m k && (!m.testBit k || c k)) := rfl
    have ex : fd_cx p m (k + 1) = if m.testBit k = true then fd_cx p m k ^^^ p k else fd_cx p m k := rfl
    refine br_f (nI_ge (b := 10) hk10 (by decide)) ?_
    rw [fd_bit (show m < 2 ^ 31 by omega) (show k < 32 by omega), fd_bo]
    by_cases b : m.testBit k = true
    · rw [if_pos b] at ex
      rw [b, Bool.not_true, Bool.false_or] at eo
      rw [ex, eo, fd_d, fd_m] at t
      refine br_t b (fy_76t hk10 (hS.1 k hk10) ?_)
      rw [hS.2.1 k hk10, hS.2.2 k hk10, nx_xor, nx_xor]
      exact t
    · rw [if_neg b] at ex
      rw [fd_nt b, Bool.not_false, Bool.true_or, Bool.and_true] at eo
      rw [ex, eo] at t
      exact br_f b (fy_76f t)
theorem fy_24 {post : SY → Prop} {w : Int32} {p : Nat → Nat} {c : Nat → Bool} {ath ase ava : Nat → Int32} (hp : ∀ k, p k < 65536) (hS : fy_S p c ath ase ava) (h : ∀ T : Nat → Int32, fd_Tab (fd_sp p (fd_cc c w) 10) T → post (ath, ase, ava, T)) : ∀ d m (T : Nat → Int32), m + d = 1024 → fd_TM p (fd_cc c w) m T → wY_work_24 post w (d + 1) (nI m) ath ase ava T := by
  intro d
  induction d with
  | zero =>
    intro m T hm hT
    have e : m = 1024 := by omega
    subst e
    exact br_t (by decide) (h T (fd_TMe hT))
  | succ d ih =>
    intro m T hm hT
    have hm' : m < 1024 := by omega
    have i54 := fy_54 (post := post) (J24 := wY_work_24 post w (d + 1)) (x1 := w) (T := T) hp hS (decide ((nI m &&& (w ^^^ (-1))) = 0)) hm' (fun o => ih (m + 1) T (by omega) (fd_TMs hT (fun z => o ((fd_okc hm').mpr z)))) (fun o => ih (m + 1) _ (by omega) (fd_TMu hT ((fd_okc hm').mp o))) 10 0 (by omega)
    have c0 : fd_cx p m 0 = 0 := rfl
    rw [c0, show nI (0 / 256) = 0 from by decide] at i54
    refine br_f (nI_ge (b := 1024) hm' (by decide)) ?_
    by_cases a : (nI m &&& (w ^^^ (-1))) = 0
    · have e : fy_b (fd_ok (decide ((nI m &&& (w ^^^ (-1))) = 0)) c m 0) = 1 := fy_b1 (decide_eq_true a)
      rw [e] at i54
      exact br_t a ⟨_, i54⟩
    · have e : fy_b (fd_ok (decide ((nI m &&& (w ^^^ (-1))) = 0)) c m 0) = 0 := fy_b0 (fun z => a (of_decide_eq_true z))
      rw [e] at i54
      exact br_f a ⟨_, i54⟩
theorem fy_work {post : SY → Prop} (w : Int32) {p : Nat → Nat} {c : Nat → Bool} {ath ase ava T : Nat → Int32} (hp : ∀ k, p k < 65536) (hS : fy_S p c ath ase ava) (h : ∀ T : Nat → Int32, fd_Tab (fd_sp p (fd_cc c w) 10) T → post (ath, ase, ava, T)) : wpY_work post (ath, ase, ava, T) w := by
  have L : ∀ d i (T : Nat → Int32), i + d = 256 → (∀ j, j < i → T j = -1) → wY_work_2 post w (d + 1) (nI i) ath ase ava T := by
    intro d
    induction d with
    | zero =>
      intro i T hi hT
      have e : i = 256 := by omega
      subst e
      exact br_t (by decide) ⟨_, fy_24 hp hS h 1024 0 T (by omega) (fd_TM0 hT)⟩
    | succ d ih =>
      intro i T hi hT
      refine br_f (nI_ge (b := 256) (by omega) (by decide)) ⟨vp_in_nI (by omega) (by decide), fun a ea y ey => ?_⟩
      rw [ea, ey, nI_1, nI_clamp (by omega)]
      refine ih (i + 1) _ (by omega) (fun j hj => ?_)
      by_cases e : j = i
      · rw [e, pk_us]
      · rw [pk_un e]
        exact hT j (by omega)
  exact ⟨_, L 256 0 T (by omega) (fun j hj => absurd hj (by omega))⟩
