/-! ===== the component's smaller methods ===== -/
theorem fx_pack {post : Int32 → Prop} {s v : Nat} (hs : s < 256) (hv : v < 256) (h : post (nI (s * 256 + v))) : wpX_pack post (nI s) (nI v) := by
  unfold wpX_pack
  rw [fd_pack hs hv]
  exact h
theorem fx_pack0 {post : Int32 → Prop} {s : Nat} (hs : s < 256) (h : post (nI (s * 256))) : wpX_pack post (nI s) 0 := fx_pack (v := 0) hs (by decide) h
theorem fx_setOf {post : Int32 → Prop} {q : Nat} (hq : q < 65536) (h : post (nI (q / 256))) : wpX_setOf post (nI q) := by
  unfold wpX_setOf
  rw [fd_set hq]
  exact h
theorem fx_valueOf {post : Int32 → Prop} {q : Nat} (h : post (nI (q % 256))) : wpX_valueOf post (nI q) := by
  unfold wpX_valueOf
  rw [fd_val q]
  exact h
theorem fd_dz {q : Nat} (hq : q < 65536) : nI (q / 256) = 0 ↔ q < 256 := by
  have t : nI (q / 256) = nI 0 ↔ q / 256 = 0 := nI_eq (by omega) (by decide)
  rw [nI_0] at t
  rw [t]
  omega
theorem fd_mz (q : Nat) : nI (q % 256) = 0 ↔ q % 256 = 0 := by
  have t : nI (q % 256) = nI 0 ↔ q % 256 = 0 := nI_eq (by omega) (by decide)
  rw [nI_0] at t
  exact t
def fx_g (R : Nat → Nat) (i : Nat) : Bool := decide (fd_red R 8 (2 ^ i * 256) < 256)
theorem fx_pieces {post : Int32 → Prop} {fk : Int32} {ap ar : Nat → Int32} {R : Nat → Nat} (hR : fx_R ar R) (h : post (nI (fd_pc (fx_g R) 8))) : wpX_piecesInRows post (fk, ap, ar) := by
  have L : ∀ d i, i + d = 8 → wX_piecesInRows_4 post fk ap ar (d + 1) (nI (fd_pc (fx_g R) i)) (nI i) := by
    intro d
    induction d with
    | zero =>
      intro i hi
      have e : i = 8 := by omega
      subst e
      exact br_t (by decide) h
    | succ d ih =>
      intro i hi
      have hi8 : i < 8 := by omega
      have h2 := fd_p8 hi8
      refine br_f (nI_ge (b := 8) hi8 (by decide)) ?_
      rw [fd_one2 i (by omega)]
      refine fx_pack0 h2 (fx_red hR (by omega) ?_)
      have hr := fd_redb (fun b hb => (hR b hb).2) 8 (2 ^ i * 256) (by omega) (by omega)
      refine fx_setOf hr ?_
      by_cases t : fd_red R 8 (2 ^ i * 256) < 256
      · refine br_t ((fd_dz hr).mpr t) (fun y ey z ez => ?_)
        have e : fd_pc (fx_g R) (i + 1) = fd_pc (fx_g R) i ||| 2 ^ i := if_pos (decide_eq_true t)
        rw [ez, ey, nI_1, fd_or, ← e]
        exact ih (i + 1) (by omega)
      · refine br_f (fun z => t ((fd_dz hr).mp z)) (fun y ey => ?_)
        have e : fd_pc (fx_g R) (i + 1) = fd_pc (fx_g R) i := if_neg (by unfold fx_g; rw [decide_eq_false t]; decide)
        rw [ey, nI_1, ← e]
        exact ih (i + 1) (by omega)
  exact ⟨9, L 8 0 (by omega)⟩
theorem fx_rank {post : Int32 → SX → Prop} {c : Nat → Bool} {p : Nat → Nat} {ap ar : Nat → Int32} (w : Int32) (hp : ∀ k, p k < 65536) (hap : ∀ k, k < 10 → ap k = nI (p k)) (h : ∀ ar' : Nat → Int32, post (nI (fd_rk (fd_rows p (fd_cc c w) 10) 8)) (nI (fd_pc c 10), ap, ar')) : wpX_rank post (nI (fd_pc c 10), ap, ar) w := by
  unfold wpX_rank
  dsimp only
  refine fx_fill w hp hap (fun ar' hr => ?_)
  have L : ∀ d i, i + d = 8 → wX_rank_9 post (nI (fd_pc c 10)) ap ar' (d + 1) (nI (fd_rk (fd_rows p (fd_cc c w) 10) i)) (nI i) := by
    intro d
    induction d with
    | zero =>
      intro i hi
      have e : i = 8 := by omega
      subst e
      exact br_t (by decide) (h ar')
    | succ d ih =>
      intro i hi
      have hi8 : i < 8 := by omega
      have hR := fx_rowsR hp (fd_cc c w) 10 hr i hi8
      have e0 : fd_rk (fd_rows p (fd_cc c w) 10) (i + 1) = if fd_rows p (fd_cc c w) 10 i = 0 then fd_rk (fd_rows p (fd_cc c w) 10) i else fd_rk (fd_rows p (fd_cc c w) 10) i + 1 := rfl
      refine br_f (nI_ge (b := 8) hi8 (by decide)) ⟨vp_in_nI hi8 (by decide), ?_⟩
      rw [nI_clamp (by omega), hR.1]
      by_cases z : fd_rows p (fd_cc c w) 10 i = 0
      · rw [if_pos z] at e0
        refine br_t (by rw [z]; rfl) (fun y ey => ?_)
        rw [ey, nI_1, ← e0]
        exact ih (i + 1) (by omega)
      · rw [if_neg z] at e0
        refine br_f (nI_ne0 (by omega) (by omega)) (fun y ey x ex => ?_)
        rw [ex, ey, nI_1, nI_1, ← e0]
        exact ih (i + 1) (by omega)
  exact ⟨9, L 8 0 (by omega)⟩
theorem fx_count {post : Int32 → Prop} {g : Nat → Bool} (h : post (nI (fd_ct g 8))) : wpX_countBits post (nI (fd_pc g 8)) := by
  have hm : fd_pc g 8 < 256 := fd_pclt g 8
  have L : ∀ d i, i + d = 8 → wX_countBits_4 post (nI (fd_pc g 8)) (d + 1) (nI (fd_ct g i)) (nI i) := by
    intro d
    induction d with
    | zero =>
      intro i hi
      have e : i = 8 := by omega
      subst e
      exact br_t (by decide) h
    | succ d ih =>
      intro i hi
      have hi8 : i < 8 := by omega
      have e0 : fd_ct g (i + 1) = if g i = true then fd_ct g i + 1 else fd_ct g i := rfl
      refine br_f (nI_ge (b := 8) hi8 (by decide)) (fun y ey x ex => ?_)
      rw [fd_bit (by omega) (by omega), fd_pctb, decide_eq_true hi8, Bool.true_and, nI_add] at ey
      rw [ex, ey, nI_1]
      have e : fd_ct g i + (if g i = true then 1 else 0) = fd_ct g (i + 1) := by
        rw [e0]
        by_cases z : g i = true
        · rw [if_pos z, if_pos z]
        · rw [if_neg z, if_neg z, Nat.add_zero]
      rw [e]
      exact ih (i + 1) (by omega)
  exact ⟨9, L 8 0 (by omega)⟩
def fx_kw (p : Nat → Nat) (c : Nat → Bool) (s : Nat) : Nat := fd_ct (fx_g (fd_add (fd_rows p c 10) 8 (s * 256))) 8
theorem fx_known {post : Int32 → SX → Prop} {c : Nat → Bool} {p : Nat → Nat} {ap ar : Nat → Int32} {s : Nat} (h1 : 1 ≤ s) (hs : s < 256) (hp : ∀ k, p k < 65536) (hap : ∀ k, k < 10 → ap k = nI (p k)) (h : ∀ ar' : Nat → Int32, post (nI (fx_kw p (fd_cc c 1023) s)) (nI (fd_pc c 10), ap, ar')) : wpX_knownWith post (nI (fd_pc c 10), ap, ar) (nI s) := by
  unfold wpX_knownWith
  dsimp only
  refine br_f (nI_nlt (b := 1) h1 (by omega)) (br_f (nI_nlt (a := 255) (show s ≤ 255 by omega) (by decide)) (br_f (by decide) ?_))
  refine fx_fill 1023 hp hap (fun ar' hr => ?_)
  refine fx_pack0 hs ?_
  have hq : s * 256 < 65536 := by omega
  refine fx_add (fx_rowsR hp _ 10 hr) hq (fun ar2 hr2 => ?_)
  have hR : fx_R ar2 (fd_add (fd_rows p (fd_cc c 1023) 10) 8 (s * 256)) := fun b hb => ⟨hr2 b hb, fd_rowlt (fd_addE (fd_rowsE _ hp 10) (fd_spcl p _ 10) 8 (s * 256) (by omega) hq) hb⟩
  refine fx_pieces hR (fx_count ?_)
  exact h ar2
theorem fx_m1le {n : Nat} (h : n < 2 ^ 31) : ¬ nI n ≤ -1 := by
  rw [Int32.le_iff_toInt_le, nI_toInt h, show (-1 : Int32).toInt = -1 from by decide]
  omega
theorem fx_best {post : Int32 → SX → Prop} {c : Nat → Bool} {p : Nat → Nat} {ap ar : Nat → Int32} (hp : ∀ k, p k < 65536) (hap : ∀ k, k < 10 → ap k = nI (p k)) (h : ∀ ar' : Nat → Int32, post (nI (fd_best (fx_kw p (fd_cc c 1023)) 254)) (nI (fd_pc c 10), ap, ar')) : wpX_bestSet post (nI (fd_pc c 10), ap, ar) := by
  have hf : ∀ s, fx_kw p (fd_cc c 1023) s ≤ 8 := fun s => fd_ctle _ 8
  have L : ∀ d n (ar : Nat → Int32), n + 2 + d = 256 → wX_bestSet_6 post (d + 1) (nI (fd_best (fx_kw p (fd_cc c 1023)) n)) (nI (fx_kw p (fd_cc c 1023) (fd_best (fx_kw p (fd_cc c 1023)) n))) (nI (n + 2)) (nI (fd_pc c 10)) ap ar := by
    intro d
    induction d with
    | zero =>
      intro n ar hn
      have e : n = 254 := by omega
      subst e
      exact br_t (by decide) (h ar)
    | succ d ih =>
      intro n ar hn
      refine br_f (nI_nlt (a := 255) (b := n + 2) (by omega) (by decide)) ?_
      refine fx_known (by omega) (by omega) hp hap (fun ar' => ?_)
      have e0 : fd_best (fx_kw p (fd_cc c 1023)) (n + 1) = if fx_kw p (fd_cc c 1023) (fd_best (fx_kw p (fd_cc c 1023)) n) < fx_kw p (fd_cc c 1023) (n + 2) then n + 2 else fd_best (fx_kw p (fd_cc c 1023)) n := rfl
      have f1 := hf (n + 2)
      have f2 := hf (fd_best (fx_kw p (fd_cc c 1023)) n)
      have t := ih (n + 1) ar' (by omega)
      refine pk_le (fx_kw p (fd_cc c 1023) (n + 2)) (fx_kw p (fd_cc c 1023) (fd_best (fx_kw p (fd_cc c 1023)) n)) (fun hle y ey => ?_) (fun hlt y ey => ?_)
      · rw [if_neg (by omega)] at e0
        rw [e0] at t
        rw [ey, nI_1]
        exact t
      · rw [if_pos hlt] at e0
        rw [e0] at t
        rw [ey, nI_1]
        exact t
  have S : ∀ n (ar : Nat → Int32), (∀ ar' : Nat → Int32, wX_bestSet_6 post n (nI 1) (nI (fx_kw p (fd_cc c 1023) 1)) (nI 2) (nI (fd_pc c 10)) ap ar') → wX_bestSet_6 post (n + 1) 1 (-1) 1 (nI (fd_pc c 10)) ap ar := by
    intro n ar hn
    refine br_f (nI_nlt (a := 255) (b := 1) (by decide) (by decide)) ?_
    refine fx_known (s := 1) (by decide) (by decide) hp hap (fun ar' => ?_)
    have f1 := hf 1
    refine br_f (fx_m1le (by omega)) (fun y ey => ?_)
    rw [ey]
    exact hn ar'
  exact ⟨_, S _ ar (fun ar' => L 254 0 ar' (by omega))⟩
theorem fx_k1 {post : Int32 → Prop} {c : Nat → Bool} {ap ar : Nat → Int32} {k : Nat} (hk : k < 10) (hc : c k = true) (h : post 1) : wpX_isKept post (nI (fd_pc c 10), ap, ar) (nI k) :=
  br_f (nI_pos (by omega)) (br_f (nI_ge (b := 10) hk (by decide)) (br_f (fun z => fd_nf hc ((fd_kept c hk).mp z)) h))
theorem fx_k0 {post : Int32 → Prop} {c : Nat → Bool} {ap ar : Nat → Int32} {k : Nat} (hk : k < 10) (hc : c k = false) (h : post 0) : wpX_isKept post (nI (fd_pc c 10), ap, ar) (nI k) :=
  br_f (nI_pos (by omega)) (br_f (nI_ge (b := 10) hk (by decide)) (br_t ((fd_kept c hk).mpr hc) h))
theorem fx_least {post : Int32 → Prop} {c : Nat → Bool} {ap ar : Nat → Int32} {k0 : Nat} (hk : k0 < 10) (hf : c k0 = false) (hl : ∀ j, j < k0 → c j = true) (h : post (nI k0)) : wpX_leastFreeNumber post (nI (fd_pc c 10), ap, ar) := by
  have L : ∀ d k, k + d = k0 → wX_leastFreeNumber_2 post (nI (fd_pc c 10)) ap ar (d + 1) (nI k) := by
    intro d
    induction d with
    | zero =>
      intro k e
      have e : k = k0 := by omega
      subst e
      exact br_c (fun _ => h) (fun _ => fx_k0 hk hf (br_t rfl h))
    | succ d ih =>
      intro k e
      refine br_f (nI_ge (b := 9) (by omega) (by decide)) (fx_k1 (by omega) (hl k (by omega)) (br_f (by decide) (fun y ey => ?_)))
      rw [ey, nI_1]
      exact ih (k + 1) (by omega)
  exact ⟨_, L k0 0 (by omega)⟩
