/-! ===== take ===== -/
theorem fd_free (c : Nat → Bool) : ∀ n, (∀ k, k < n → c k = true) ∨ (∃ k0, k0 < n ∧ c k0 = false ∧ ∀ j, j < k0 → c j = true) := by
  intro n
  induction n with
  | zero => exact Or.inl (fun k hk => absurd hk (by omega))
  | succ n ih =>
    rcases ih with h | ⟨k0, h1, h2, h3⟩
    · by_cases e : c n = true
      · refine Or.inl (fun k hk => ?_)
        by_cases z : k = n
        · rw [z]; exact e
        · exact h k (by omega)
      · exact Or.inr ⟨n, by omega, fd_nt e, h⟩
    · exact Or.inr ⟨k0, by omega, h2, h3⟩
theorem fx_take {post : Int32 → SX → Prop} {c : Nat → Bool} {p : Nat → Nat} {ap ar : Nat → Int32} {s w : Nat} (hs1 : 1 ≤ s) (hs : s < 256) (hw : w < 256) (hp : ∀ k, p k < 65536) (hap : ∀ k, k < 10 → ap k = nI (p k)) (hn : ¬ ∀ k, k < 10 → c k = true) (h : ∀ ar' : Nat → Int32, ((fd_red (fd_rows p (fd_cc c 1023) 10) 8 (s * 256 + w) / 256 = 0 ∧ ¬ fd_red (fd_rows p (fd_cc c 1023) 10) 8 (s * 256 + w) % 256 = 0) → post (-3) (nI (fd_pc c 10), ap, ar')) ∧ (¬ (fd_red (fd_rows p (fd_cc c 1023) 10) 8 (s * 256 + w) / 256 = 0 ∧ ¬ fd_red (fd_rows p (fd_cc c 1023) 10) 8 (s * 256 + w) % 256 = 0) → ∀ k0, k0 < 10 → c k0 = false → (∀ j, j < k0 → c j = true) → post (nI k0) (nI (fd_pc (fun j => if j = k0 then true else c j) 10), upd ap k0 (nI (s * 256 + w)), ar'))) : wpX_take post (nI (fd_pc c 10), ap, ar) (nI s) (nI w) := by
  unfold wpX_take
  dsimp only
  refine br_f (nI_nlt (b := 1) hs1 (by omega)) (br_f (nI_nlt (a := 255) (show s ≤ 255 by omega) (by decide)) (br_f (by decide) ?_))
  refine br_f (nI_pos (by omega)) (br_f (nI_nlt (a := 255) (show w ≤ 255 by omega) (by decide)) (br_f (by decide) ?_))
  refine br_f (fun z => hn ((fd_kfull c).mp z)) ?_
  refine fx_pack hs hw ?_
  refine fx_fill 1023 hp hap (fun ar' hr => ?_)
  have hR := fx_rowsR hp (fd_cc c 1023) 10 hr
  have hq : s * 256 + w < 65536 := by omega
  have hb := fd_redb (fun b hb => (hR b hb).2) 8 (s * 256 + w) (by omega) hq
  have h' := h ar'
  refine fx_red hR hq (fx_setOf hb ?_)
  by_cases rf : fd_red (fd_rows p (fd_cc c 1023) 10) 8 (s * 256 + w) / 256 = 0 ∧ ¬ fd_red (fd_rows p (fd_cc c 1023) 10) 8 (s * 256 + w) % 256 = 0
  · refine br_t (by rw [rf.1]; rfl) (fx_valueOf (br_f (fun z => rf.2 ((fd_mz _).mp z)) ?_))
    exact h'.1 rf
  · obtain ⟨k0, hk, hf, hl⟩ : ∃ k0, k0 < 10 ∧ c k0 = false ∧ ∀ j, j < k0 → c j = true := (fd_free c 10).elim (fun z => absurd z hn) id
    have H : wX_take_68 post (nI (s * 256 + w)) (nI (fd_pc c 10)) ap ar' := by
      unfold wX_take_68
      refine fx_least hk hf hl ⟨vp_in_nI hk (by decide), fun a ea f ef => ?_⟩
      rw [ea, ef, nI_clamp (by omega), fd_ktake c hk]
      exact h'.2 rf k0 hk hf hl
    refine br_c (fun z => fx_valueOf (br_t ((fd_mz _).mpr ?_) H)) (fun _ => H)
    have z' : fd_red (fd_rows p (fd_cc c 1023) 10) 8 (s * 256 + w) < 256 := (fd_dz hb).mp z
    exact Classical.byContradiction (fun y => rf ⟨Nat.div_eq_of_lt z', y⟩)
theorem fy_take_full {post : Int32 → SY → Prop} {x1 x2 : Int32} {c : Nat → Bool} {ath ase ava T : Nat → Int32} (ha : ∀ k, k < 10 → ath k = fy_b (c k)) (hc : ∀ k, k < 10 → c k = true) (h : post (-2) (ath, ase, ava, T)) : ∀ d i, i + d = 10 → wY_take_27 post x1 x2 ath ase ava T (d + 1) (nI i) := by
  intro d
  induction d with
  | zero =>
    intro i hi
    have e : i = 10 := by omega
    subst e
    exact br_t (by decide) h
  | succ d ih =>
    intro i hi
    have hi' : i < 10 := by omega
    refine br_f (nI_ge (b := 10) hi' (by decide)) ⟨vp_in_nI hi' (by decide), ?_⟩
    rw [nI_clamp (by omega), ha i hi']
    refine br_f (fy_bn (hc i hi')) (fun y ey => ?_)
    rw [ey, nI_1]
    exact ih (i + 1) (by omega)
theorem fy_take_l {post : Int32 → SY → Prop} {s w : Nat} {c : Nat → Bool} {ath ase ava T : Nat → Int32} (hs : s < 256) (ha : ∀ k, k < 10 → ath k = fy_b (c k)) {k0 : Nat} (hk : k0 < 10) (hf : c k0 = false) (hl : ∀ j, j < k0 → c j = true) (h1 : (¬ T s < 0 ∧ ¬ T s = nI w) → post (-3) (ath, ase, ava, T)) (h2 : ¬ (¬ T s < 0 ∧ ¬ T s = nI w) → post (nI k0) (upd ath k0 (vp_nar .boolean 1), upd ase k0 (nI s), upd ava k0 (nI w), T)) : ∀ d i, i + d = k0 → wY_take_27 post (nI s) (nI w) ath ase ava T (d + 1) (nI i) := by
  intro d
  induction d with
  | zero =>
    intro i hi
    have e : i = k0 := by omega
    subst e
    have hin : vp_in (nI i) 10 := vp_in_nI hk (by decide)
    have hsn : vp_in (nI s) 256 := vp_in_nI hs (by decide)
    have H : ¬ (¬ T s < 0 ∧ ¬ T s = nI w) → wY_take_64 post (nI s) (nI w) (nI i) ath ase ava T := by
      intro z
      refine ⟨hin, fun a ea => ⟨hin, fun b eb => ⟨hin, fun d ed => ?_⟩⟩⟩
      rw [ea, eb, ed, nI_clamp (by omega)]
      exact h2 z
    refine br_f (nI_ge (b := 10) hk (by decide)) ⟨hin, ?_⟩
    rw [nI_clamp (show i < 2 ^ 31 by omega), ha i hk]
    refine br_t (fy_bz.mpr hf) ⟨hsn, ?_⟩
    rw [nI_clamp (show s < 2 ^ 31 by omega)]
    by_cases z1 : T s < 0
    · exact br_t z1 (H (fun z => z.1 z1))
    · refine br_f z1 ⟨hsn, ?_⟩
      by_cases z2 : T s = nI w
      · exact br_t z2 (H (fun z => z.2 z2))
      · exact br_f z2 (h1 ⟨z1, z2⟩)
  | succ d ih =>
    intro i hi
    have hi' : i < 10 := by omega
    refine br_f (nI_ge (b := 10) hi' (by decide)) ⟨vp_in_nI hi' (by decide), ?_⟩
    rw [nI_clamp (show i < 2 ^ 31 by omega), ha i hi']
    refine br_f (fy_bn (hl i (by omega))) (fun y ey => ?_)
    rw [ey, nI_1]
    exact ih (i + 1) (by omega)
theorem fd_Jtake {p : Nat → Nat} {c : Nat → Bool} {ap ath ase ava : Nat → Int32} (J : fd_J p c ap ath ase ava) {T : Nat → Int32} (hT : fd_Tab (fd_sp p (fd_cc c 1023) 10) T) {s w k0 : Nat} (hs : s < 256) (hw : w < 256) (hk : k0 < 10) (hf : c k0 = false) (hn : ¬ (¬ T s < 0 ∧ ¬ T s = nI w)) : fd_J (fun j => if j = k0 then s * 256 + w else p j) (fun j => if j = k0 then true else c j) (upd ap k0 (nI (s * 256 + w))) (upd ath k0 (vp_nar .boolean 1)) (upd ase k0 (nI s)) (upd ava k0 (nI w)) := by
  have eq := fd_q (s := s) hw
  refine ⟨fun i => ?_, fun i hi => ?_, ⟨fun i hi => ?_, fun i hi => ?_, fun i hi => ?_⟩, fun x hx hl => ?_⟩
  · dsimp only
    by_cases e : i = k0
    · rw [if_pos e]; omega
    · rw [if_neg e]; exact J.1 i
  · dsimp only
    by_cases e : i = k0
    · rw [if_pos e, e, pk_us]
    · rw [if_neg e, pk_un e]; exact J.2.1 i hi
  · dsimp only
    by_cases e : i = k0
    · rw [if_pos e, e, pk_us]; rfl
    · rw [if_neg e, pk_un e]; exact J.2.2.1.1 i hi
  · dsimp only
    by_cases e : i = k0
    · rw [if_pos e, e, pk_us, eq.1]
    · rw [if_neg e, pk_un e]; exact J.2.2.1.2.1 i hi
  · dsimp only
    by_cases e : i = k0
    · rw [if_pos e, e, pk_us, eq.2]
    · rw [if_neg e, pk_un e]; exact J.2.2.1.2.2 i hi
  · rw [fd_spA] at hT
    exact fd_takeC (fd_spcl p c 10) (fd_splt J.1 10) hT J.2.2.2 hw hn x ((fd_spu p c k0 (s * 256 + w) hf 10 hk x).mp hx) hl
theorem i_vc_take {k : Nat} {u : SX} {v : SY} (I : i_Rel k u v) (hk : k + 3 ≤ 1536) (v1 : Int32) (v2 : Int32) : wpX_take (fun r u' => wpY_take (fun r' v' => r' = r ∧ i_Rel (k + 3) u' v') v v1 v2) u v1 v2 := by
  obtain ⟨p, c, ap, ar, ath, ase, ava, T, rfl, rfl, J⟩ := I
  by_cases a0 : v1 < 1
  · unfold wpX_take wpY_take
    dsimp only
    exact br_t a0 (br_t rfl (br_t a0 (br_t rfl ⟨rfl, fd_rel J⟩)))
  by_cases a1 : 255 < v1
  · unfold wpX_take wpY_take
    dsimp only
    exact br_f a0 (br_t a1 (br_t rfl (br_f a0 (br_t a1 (br_t rfl ⟨rfl, fd_rel J⟩)))))
  by_cases b0 : v2 < 0
  · unfold wpX_take wpY_take
    dsimp only
    exact br_f a0 (br_f a1 (br_f (by decide) (br_t b0 (br_t rfl (br_f a0 (br_f a1 (br_f (by decide) (br_t b0 (br_t rfl ⟨rfl, fd_rel J⟩)))))))))
  by_cases b1 : 255 < v2
  · unfold wpX_take wpY_take
    dsimp only
    exact br_f a0 (br_f a1 (br_f (by decide) (br_f b0 (br_t b1 (br_t rfl (br_f a0 (br_f a1 (br_f (by decide) (br_f b0 (br_t b1 (br_t rfl ⟨rfl, fd_rel J⟩)))))))))))
  obtain ⟨s, hs1, hs, rfl⟩ := fd_r1 a0 a1
  obtain ⟨w, hw, rfl⟩ := fd_r0 b0 b1
  by_cases full : ∀ j, j < 10 → c j = true
  · unfold wpX_take wpY_take
    dsimp only
    refine br_f a0 (br_f a1 (br_f (by decide) (br_f b0 (br_f b1 (br_f (by decide) (br_t ((fd_kfull c).mpr full) ?_))))))
    refine br_f a0 (br_f a1 (br_f (by decide) (br_f b0 (br_f b1 (br_f (by decide) ?_)))))
    refine fy_work 1023 J.1 J.2.2.1 (fun T' hT => ?_)
    exact ⟨_, fy_take_full J.2.2.1.1 full ⟨rfl, fd_rel J⟩ 10 0 (by omega)⟩
  · refine fx_take hs1 hs hw J.1 J.2.1 full (fun ar' => ⟨fun rf => ?_, fun rf k0 hk0 hf hl => ?_⟩)
    · obtain ⟨k0, hk0, hf, hl⟩ : ∃ k0, k0 < 10 ∧ c k0 = false ∧ ∀ j, j < k0 → c j = true := (fd_free c 10).elim (fun z => absurd z full) id
      unfold wpY_take
      dsimp only
      refine br_f a0 (br_f a1 (br_f (by decide) (br_f b0 (br_f b1 (br_f (by decide) ?_)))))
      refine fy_work 1023 J.1 J.2.2.1 (fun T' hT => ?_)
      have ti := (fd_takeI (fd_rowsE _ J.1 10) (fd_spcl p _ 10) (fd_splt J.1 10) hT (fd_conA J.2.2.2) hs hw).mp rf
      exact ⟨_, fy_take_l hs J.2.2.1.1 hk0 hf hl (fun _ => ⟨rfl, fd_rel J⟩) (fun z => absurd ti z) k0 0 (Nat.zero_add _)⟩
    · unfold wpY_take
      dsimp only
      refine br_f a0 (br_f a1 (br_f (by decide) (br_f b0 (br_f b1 (br_f (by decide) ?_)))))
      refine fy_work 1023 J.1 J.2.2.1 (fun T' hT => ?_)
      have tn : ¬ (¬ T' s < 0 ∧ ¬ T' s = nI w) := fun z => rf ((fd_takeI (fd_rowsE _ J.1 10) (fd_spcl p _ 10) (fd_splt J.1 10) hT (fd_conA J.2.2.2) hs hw).mpr z)
      exact ⟨_, fy_take_l hs J.2.2.1.1 hk0 hf hl (fun z => absurd z tn) (fun _ => ⟨rfl, fd_rel (fd_Jtake J hT hs hw hk0 hf tn)⟩) k0 0 (Nat.zero_add _)⟩
