/-! ===== the reference's smaller methods ===== -/
theorem fy_size {post : Int32 → Prop} {ath ase ava T : Nat → Int32} (h : post (nI (fd_ct (fd_g T) 256))) : wpY_size post (ath, ase, ava, T) := by
  have L : ∀ d i, i + d = 256 → wY_size_4 post ath ase ava T (d + 1) (nI (fd_ct (fd_g T) i)) (nI i) := by
    intro d
    induction d with
    | zero =>
      intro i hi
      have e : i = 256 := by omega
      subst e
      exact br_t (by decide) h
    | succ d ih =>
      intro i hi
      have hi' : i < 256 := by omega
      have e0 : fd_ct (fd_g T) (i + 1) = if fd_g T i = true then fd_ct (fd_g T) i + 1 else fd_ct (fd_g T) i := rfl
      have t := ih (i + 1) (by omega)
      refine br_f (nI_ge (b := 256) hi' (by decide)) ⟨vp_in_nI hi' (by decide), ?_⟩
      rw [nI_clamp (by omega)]
      by_cases z : T i < 0
      · rw [if_neg (fd_gf z)] at e0
        rw [e0] at t
        refine br_t z (fun y ey => ?_)
        rw [ey, nI_1]
        exact t
      · rw [if_pos (fd_gt z)] at e0
        rw [e0] at t
        refine br_f z (fun y ey x ex => ?_)
        rw [ex, ey, nI_1, nI_1]
        exact t
  exact ⟨_, L 256 0 (by omega)⟩
def fy_w (T : Nat → Int32) (s i : Nat) : Bool := fd_g T (2 ^ i) || fd_g T (2 ^ i ^^^ s)
theorem fy_with {post : Int32 → Prop} {ath ase ava T : Nat → Int32} {s : Nat} (hs : s < 256) (h : post (nI (fd_ct (fy_w T s) 8))) : wpY_with post (ath, ase, ava, T) (nI s) := by
  have L : ∀ d i, i + d = 8 → wY_with_4 post (nI s) ath ase ava T (d + 1) (nI (fd_ct (fy_w T s) i)) (nI i) := by
    intro d
    induction d with
    | zero =>
      intro i hi
      have e : i = 8 := by omega
      subst e
      exact br_t (by decide) h
    | succ d ih =>
      intro i hi
      have hi' : i < 8 := by omega
      have h2 := fd_p8 hi'
      have hx : 2 ^ i ^^^ s < 256 := Nat.xor_lt_two_pow (n := 8) h2 hs
      have e0 : fd_ct (fy_w T s) (i + 1) = if fy_w T s i = true then fd_ct (fy_w T s) i + 1 else fd_ct (fy_w T s) i := rfl
      have t := ih (i + 1) (by omega)
      refine br_f (nI_ge (b := 8) hi' (by decide)) ?_
      rw [fd_one2 i (by omega), nx_xor, nI_clamp (show 2 ^ i < 2 ^ 31 by omega), nI_clamp (show 2 ^ i ^^^ s < 2 ^ 31 by omega)]
      refine ⟨vp_in_nI h2 (by decide), ?_⟩
      by_cases z : T (2 ^ i) < 0
      · refine br_f (Int32.not_le.mpr z) ⟨vp_in_nI hx (by decide), ?_⟩
        by_cases z2 : T (2 ^ i ^^^ s) < 0
        · have ew : ¬ fy_w T s i = true := by
            unfold fy_w
            rw [fd_nt (fd_gf z), fd_nt (fd_gf z2)]
            decide
          rw [if_neg ew] at e0
          rw [e0] at t
          refine br_t z2 (fun y ey => ?_)
          rw [ey, nI_1]
          exact t
        · have ew : fy_w T s i = true := by
            unfold fy_w
            rw [fd_gt z2, Bool.or_true]
          rw [if_pos ew] at e0
          rw [e0] at t
          refine br_f z2 (fun y ey x ex => ?_)
          rw [ex, ey, nI_1, nI_1]
          exact t
      · have ew : fy_w T s i = true := by
          unfold fy_w
          rw [fd_gt z, Bool.true_or]
        rw [if_pos ew] at e0
        rw [e0] at t
        refine br_t (Int32.not_lt.mp z) (fun y ey x ex => ?_)
        rw [ex, ey, nI_1, nI_1]
        exact t
  exact ⟨_, L 8 0 (by omega)⟩
theorem fy_known_l {post : Int32 → SY → Prop} {ath ase ava T : Nat → Int32} (h : post (nI (fd_pc (fun i => fd_g T (2 ^ i)) 8)) (ath, ase, ava, T)) : ∀ d i, i + d = 8 → wY_known_11 post ath ase ava T (d + 1) (nI (fd_pc (fun i => fd_g T (2 ^ i)) i)) (nI i) := by
  intro d
  induction d with
  | zero =>
    intro i hi
    have e : i = 8 := by omega
    subst e
    exact br_t (by decide) h
  | succ d ih =>
    intro i hi
    have hi' : i < 8 := by omega
    have h2 := fd_p8 hi'
    have e0 : fd_pc (fun i => fd_g T (2 ^ i)) (i + 1) = if fd_g T (2 ^ i) = true then fd_pc (fun i => fd_g T (2 ^ i)) i ||| 2 ^ i else fd_pc (fun i => fd_g T (2 ^ i)) i := rfl
    have t := ih (i + 1) (by omega)
    refine br_f (nI_ge (b := 8) hi' (by decide)) ?_
    rw [fd_one2 i (by omega), nI_clamp (show 2 ^ i < 2 ^ 31 by omega)]
    refine ⟨vp_in_nI h2 (by decide), ?_⟩
    by_cases z : T (2 ^ i) < 0
    · rw [if_neg (fd_gf z)] at e0
      rw [e0] at t
      refine br_t z (fun y ey => ?_)
      rw [ey, nI_1]
      exact t
    · rw [if_pos (fd_gt z)] at e0
      rw [e0] at t
      refine br_f z (fun y ey x ex => ?_)
      rw [ex, ey, nI_1, fd_or]
      exact t
theorem fy_drops_l {post : Int32 → Prop} {c : Nat → Bool} {ath ase ava T : Nat → Int32} (ha : ∀ k, k < 10 → ath k = fy_b (c k)) (h : post (nI (fd_pc c 10))) : ∀ d i, i + d = 10 → wY_drops_4 post ath ase ava T (d + 1) (nI (fd_pc c i)) (nI i) := by
  intro d
  induction d with
  | zero =>
    intro i hi
    have e : i = 10 := by omega
    subst e
    exact br_t (by decide) h
  | succ d ih =>
    intro i hi
    have hi' : i < 10 := by omega
    have e0 : fd_pc c (i + 1) = if c i = true then fd_pc c i ||| 2 ^ i else fd_pc c i := rfl
    have t := ih (i + 1) (by omega)
    refine br_f (nI_ge (b := 10) hi' (by decide)) ⟨vp_in_nI hi' (by decide), ?_⟩
    rw [nI_clamp (by omega), ha i hi', fd_one2 i (by omega)]
    by_cases z : c i = true
    · rw [if_pos z] at e0
      rw [e0] at t
      refine br_f (fy_bn z) (fun y ey x ex => ?_)
      rw [ex, ey, nI_1, fd_or]
      exact t
    · rw [if_neg z] at e0
      rw [e0] at t
      refine br_t (fy_b0 z) (fun y ey => ?_)
      rw [ey, nI_1]
      exact t
theorem fy_best_l {post : Int32 → SY → Prop} {ath ase ava T : Nat → Int32} {f : Nat → Nat} (hf : ∀ s, 1 ≤ s → s < 256 → f s = fd_ct (fy_w T s) 8) (h : post (nI (fd_best f 254)) (ath, ase, ava, T)) : ∀ d n, n + 2 + d = 256 → wY_bestSet_11 post ath ase ava T (d + 1) (nI (fd_best f n)) (nI (n + 2)) := by
  intro d
  induction d with
  | zero =>
    intro n hn
    have e : n = 254 := by omega
    subst e
    exact br_t (by decide) h
  | succ d ih =>
    intro n hn
    have e0 : fd_best f (n + 1) = if f (fd_best f n) < f (n + 2) then n + 2 else fd_best f n := rfl
    have t := ih (n + 1) (by omega)
    have hb := fd_bestle f n
    have f1 := fd_ctle (fy_w T (n + 2)) 8
    have f2 := fd_ctle (fy_w T (fd_best f n)) 8
    have g1 := hf (n + 2) (by omega) (by omega)
    have g2 := hf (fd_best f n) (by omega) (by omega)
    refine br_f (nI_ge (b := 256) (by omega) (by decide)) ?_
    refine fy_with (by omega) (fy_with (by omega) ?_)
    refine pk_le (fd_ct (fy_w T (n + 2)) 8) (fd_ct (fy_w T (fd_best f n)) 8) (fun hle y ey => ?_) (fun hlt y ey => ?_)
    · rw [if_neg (by omega)] at e0
      rw [e0] at t
      rw [ey, nI_1]
      exact t
    · rw [if_pos (by omega)] at e0
      rw [e0] at t
      rw [ey, nI_1]
      exact t
theorem fy_missing_l {post : Int32 → SY → Prop} {ath ase ava T : Nat → Int32} {r : Nat} (hr : r ≤ 8) (h : post (nI (8 - r)) (ath, ase, ava, T)) : ∀ d i, i + d = 8 - r → wY_missing_14 post (nI (2 ^ r)) ath ase ava T (d + 1) (nI i) := by
  intro d
  induction d with
  | zero =>
    intro i hi
    have e : i = 8 - r := by omega
    have e2 : 2 ^ r * 2 ^ i = 256 := by
      rw [← Nat.pow_add, show r + i = 8 by omega]
    subst e
    have es : nI (2 ^ r) <<< (nI (8 - r) &&& 31) = nI 256 := by
      rw [pk_shlN _ (8 - r) (s_l _ (by omega)) (by rw [e2]; decide), e2]
    rw [wY_missing_14]
    dsimp only
    rw [es]
    exact br_t (by decide) h
  | succ d ih =>
    intro i hi
    have e2 : 2 ^ r * 2 ^ i < 256 := by
      rw [← Nat.pow_add]
      exact Nat.pow_lt_pow_right (m := r + i) (n := 8) (by decide) (by omega)
    have es : nI (2 ^ r) <<< (nI i &&& 31) = nI (2 ^ r * 2 ^ i) := pk_shlN _ i (s_l _ (by omega)) (by omega)
    rw [wY_missing_14]
    dsimp only
    rw [es]
    refine br_f (nI_ge (b := 256) e2 (by decide)) (br_f (nI_ge (b := 8) (by omega) (by decide)) (fun y ey => ?_))
    rw [ey, nI_1]
    exact ih (i + 1) (by omega)
