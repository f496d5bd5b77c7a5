/-! ===== what is owed ===== -/
theorem i_up {k : Nat} {u : SX} {v : SY} (h : i_Rel k u v) : i_Rel (k + 3) u v := h
theorem i_vc0 : wpX_init (fun u => wpY_init (fun v => i_Rel 0 u v)) := by
  refine ⟨fun _ => 0, fun _ => false, fun _ => 0, fun _ => 0, fun _ => 0, fun _ => 0, fun _ => 0, fun _ => 0, ?_, rfl, ?_⟩
  · rw [show nI (fd_pc (fun _ => false) 10) = 0 from by decide]
  · have e0 : nI (0 / 256) = 0 := by decide
    have e1 : nI (0 % 256) = 0 := by decide
    exact ⟨fun _ => Nat.zero_lt_succ _, fun _ _ => rfl, ⟨fun _ _ => rfl, fun _ _ => e0.symm, fun _ _ => e1.symm⟩, fun x hx _ => fd_spn 10 x hx⟩
theorem i_vc_drops {k : Nat} {u : SX} {v : SY} (I : i_Rel k u v) (hk : k + 3 ≤ 1536) : wpX_drops (fun r => wpY_drops (fun r' => r' = r ∧ i_Rel (k + 3) u v) v) u := by
  obtain ⟨p, c, ap, ar, ath, ase, ava, T, rfl, rfl, J⟩ := I
  unfold wpX_drops wpY_drops
  dsimp only
  exact ⟨_, fy_drops_l J.2.2.1.1 ⟨rfl, fd_rel J⟩ 10 0 (by omega)⟩
theorem i_vc_known {k : Nat} {u : SX} {v : SY} (I : i_Rel k u v) (hk : k + 3 ≤ 1536) : wpX_known (fun r u' => wpY_known (fun r' v' => r' = r ∧ i_Rel (k + 3) u' v') v) u := by
  obtain ⟨p, c, ap, ar, ath, ase, ava, T, rfl, rfl, J⟩ := I
  unfold wpX_known wpY_known
  dsimp only
  refine fx_fill 1023 J.1 J.2.1 (fun ar' hr => ?_)
  refine fx_pieces (fx_rowsR J.1 _ 10 hr) ?_
  refine fy_work 1023 J.1 J.2.2.1 (fun T' hT => ?_)
  refine ⟨_, fy_known_l ⟨congrArg nI (fd_pcg 8 (fun i hi => Bool.eq_iff_iff.mpr ?_)), fd_rel J⟩ 8 0 (by omega)⟩
  rw [fx_gi, fd_same (fd_rowsE _ J.1 10) (fd_spcl p _ 10) (fd_splt J.1 10) hT (fd_p8 hi)]
theorem i_vc_sum {k : Nat} {u : SX} {v : SY} (I : i_Rel k u v) (hk : k + 3 ≤ 1536) (v1 : Int32) : wpX_sum (fun r u' => wpY_sum (fun r' v' => r' = r ∧ i_Rel (k + 3) u' v') v v1) u v1 := by
  obtain ⟨p, c, ap, ar, ath, ase, ava, T, rfl, rfl, J⟩ := I
  rcases fd_ix 255 (by decide) v1 with h | ⟨h0, _, h⟩ | ⟨s, hs, rfl, h0, _, h⟩
  · unfold wpX_sum wpY_sum
    dsimp only
    refine br_t h (fy_work 1023 J.1 J.2.2.1 (fun T' hT => ?_))
    exact br_t h ⟨rfl, fd_rel J⟩
  · unfold wpX_sum wpY_sum
    dsimp only
    refine br_f h0 (br_f (Int32.not_le.mpr h) (fy_work 1023 J.1 J.2.2.1 (fun T' hT => ?_)))
    exact br_f h0 (br_t h ⟨rfl, fd_rel J⟩)
  · refine fx_sum hs J.1 J.2.1 (fun ar' => ?_)
    unfold wpY_sum
    dsimp only
    refine fy_work 1023 J.1 J.2.2.1 (fun T' hT => ?_)
    refine br_f h0 (br_f h ⟨vp_in_nI hs (by decide), ?_, fd_rel J⟩)
    rw [nI_clamp (by omega)]
    exact fd_sv J.1 J.2.2.2 hT hs
theorem i_vc_piece {k : Nat} {u : SX} {v : SY} (I : i_Rel k u v) (hk : k + 3 ≤ 1536) (v1 : Int32) : wpX_piece (fun r u' => wpY_piece (fun r' v' => r' = r ∧ i_Rel (k + 3) u' v') v v1) u v1 := by
  obtain ⟨p, c, ap, ar, ath, ase, ava, T, rfl, rfl, J⟩ := I
  rcases fd_ix 7 (by decide) v1 with h | ⟨h0, h8, h⟩ | ⟨i, hi, rfl, h0, _, h⟩
  · unfold wpX_piece wpY_piece
    dsimp only
    refine br_t h (br_t rfl (fy_work 1023 J.1 J.2.2.1 (fun T' hT => ?_)))
    exact br_t h ⟨rfl, fd_rel J⟩
  · unfold wpX_piece wpY_piece
    dsimp only
    refine br_f h0 (br_t h8 (br_t rfl (fy_work 1023 J.1 J.2.2.1 (fun T' hT => ?_))))
    exact br_f h0 (br_t h ⟨rfl, fd_rel J⟩)
  · refine fx_piece hi J.1 J.2.1 (fun ar' => ?_)
    refine fy_piece hi J.1 J.2.2.1 (fun T' hT => ?_)
    exact ⟨fd_sv J.1 J.2.2.2 hT (fd_p8 hi), fd_rel J⟩
theorem i_vc_missing {k : Nat} {u : SX} {v : SY} (I : i_Rel k u v) (hk : k + 3 ≤ 1536) : wpX_missing (fun r u' => wpY_missing (fun r' v' => r' = r ∧ i_Rel (k + 3) u' v') v) u := by
  obtain ⟨p, c, ap, ar, ath, ase, ava, T, rfl, rfl, J⟩ := I
  unfold wpX_missing wpY_missing
  dsimp only
  have l := fd_rrle p c 1023
  refine fx_rank 1023 J.1 J.2.1 (fun ar' => ?_)
  refine fy_work 1023 J.1 J.2.2.1 (fun T' hT => ?_)
  refine fy_size ?_
  rw [fd_sz J.1 hT]
  exact ⟨_, fy_missing_l l ⟨(pk_sub l).symm, fd_rel J⟩ _ 0 (Nat.zero_add _)⟩
theorem i_vc_knownSums {k : Nat} {u : SX} {v : SY} (I : i_Rel k u v) (hk : k + 3 ≤ 1536) : wpX_knownSums (fun r u' => wpY_knownSums (fun r' v' => r' = r ∧ i_Rel (k + 3) u' v') v) u := by
  obtain ⟨p, c, ap, ar, ath, ase, ava, T, rfl, rfl, J⟩ := I
  unfold wpX_knownSums wpY_knownSums
  dsimp only
  have l := fd_rrle p c 1023
  refine fx_rank 1023 J.1 J.2.1 (fun ar' => ?_)
  refine fy_work 1023 J.1 J.2.2.1 (fun T' hT => ?_)
  refine fy_size ?_
  rw [fd_sz J.1 hT]
  have e : (1 : Int32) <<< (nI (fd_rr p c 1023) &&& 31) = nI (2 ^ fd_rr p c 1023) := fd_one2 _ (by omega)
  refine ⟨?_, fd_rel J⟩
  rw [← e]
  rfl
theorem i_vc_knownWith {k : Nat} {u : SX} {v : SY} (I : i_Rel k u v) (hk : k + 3 ≤ 1536) (v1 : Int32) : wpX_knownWith (fun r u' => wpY_knownWith (fun r' v' => r' = r ∧ i_Rel (k + 3) u' v') v v1) u v1 := by
  obtain ⟨p, c, ap, ar, ath, ase, ava, T, rfl, rfl, J⟩ := I
  by_cases h1 : v1 < 1
  · unfold wpX_knownWith wpY_knownWith
    dsimp only
    exact br_t h1 (br_t rfl (br_t h1 (br_t rfl ⟨rfl, fd_rel J⟩)))
  · by_cases h2 : 255 < v1
    · unfold wpX_knownWith wpY_knownWith
      dsimp only
      exact br_f h1 (br_t h2 (br_t rfl (br_f h1 (br_t h2 (br_t rfl ⟨rfl, fd_rel J⟩)))))
    · obtain ⟨s, hs1, hs, rfl⟩ := fd_r1 h1 h2
      refine fx_known hs1 hs J.1 J.2.1 (fun ar' => ?_)
      unfold wpY_knownWith
      dsimp only
      refine br_f h1 (br_f h2 (br_f (by decide) ?_))
      refine fy_work 1023 J.1 J.2.2.1 (fun T' hT => ?_)
      refine fy_with hs ⟨?_, fd_rel J⟩
      rw [fd_kwe J.1 hT hs]
theorem i_vc_bestSet {k : Nat} {u : SX} {v : SY} (I : i_Rel k u v) (hk : k + 3 ≤ 1536) : wpX_bestSet (fun r u' => wpY_bestSet (fun r' v' => r' = r ∧ i_Rel (k + 3) u' v') v) u := by
  obtain ⟨p, c, ap, ar, ath, ase, ava, T, rfl, rfl, J⟩ := I
  refine fx_best J.1 J.2.1 (fun ar' => ?_)
  unfold wpY_bestSet
  dsimp only
  refine fy_work 1023 J.1 J.2.2.1 (fun T' hT => ?_)
  exact ⟨_, fy_best_l (f := fx_kw p (fd_cc c 1023)) (fun s _ hs => fd_kwe J.1 hT hs) ⟨rfl, fd_rel J⟩ 254 0 (by omega)⟩
theorem fx_possible {post : Int32 → SX → Prop} {c : Nat → Bool} {p : Nat → Nat} {ap ar : Nat → Int32} {i : Nat} {v2 : Int32} (hi : i < 8) (g0 : ¬ v2 < 0) (g1 : ¬ 255 < v2) (hp : ∀ k, p k < 65536) (hap : ∀ k, k < 10 → ap k = nI (p k)) (h : ∀ ar' : Nat → Int32, post (fy_b (decide (fx_v (fd_rows p (fd_cc c 1023) 10) (2 ^ i) < 0 ∨ fx_v (fd_rows p (fd_cc c 1023) 10) (2 ^ i) = v2))) (nI (fd_pc c 10), ap, ar')) : wpX_possible post (nI (fd_pc c 10), ap, ar) (nI i) v2 := by
  unfold wpX_possible
  dsimp only
  refine br_f (nI_pos (by omega)) (br_f (nI_ge (b := 8) hi (by decide)) (br_f (by decide) (br_f g0 (br_f g1 (br_f (by decide) ?_)))))
  refine fx_piece hi hp hap (fun ar' => ?_)
  have h' := h ar'
  have D : fx_v (fd_rows p (fd_cc c 1023) 10) (2 ^ i) = -1 ∨ ∃ m, m < 256 ∧ fx_v (fd_rows p (fd_cc c 1023) 10) (2 ^ i) = nI m := by
    unfold fx_v
    by_cases z : fd_red (fd_rows p (fd_cc c 1023) 10) 8 (2 ^ i * 256) < 256
    · rw [if_pos z]
      exact Or.inr ⟨_, Nat.mod_lt _ (by decide), rfl⟩
    · rw [if_neg z]
      exact Or.inl rfl
  generalize fx_v (fd_rows p (fd_cc c 1023) 10) (2 ^ i) = e at h' D ⊢
  rcases D with D | ⟨m, hm, D⟩
  · rw [fy_b1 (decide_eq_true (Or.inl (by rw [D]; exact fd_m1)))] at h'
    exact br_t D h'
  · have n1 : ¬ e = -1 := fun z => fx_m1le (n := m) (by omega) (by rw [← D, z]; exact Int32.le_refl _)
    have n2 : ¬ e < 0 := by
      rw [D]
      exact nI_pos (by omega)
    refine br_f n1 ?_
    by_cases z : e = v2
    · rw [fy_b1 (decide_eq_true (Or.inr z))] at h'
      exact br_t z h'
    · rw [fy_b0 (fun y => (of_decide_eq_true y).elim n2 z)] at h'
      exact br_f z h'
theorem fy_possible {post : Int32 → SY → Prop} {p : Nat → Nat} {c : Nat → Bool} {ath ase ava T : Nat → Int32} {i : Nat} {v2 : Int32} (hi : i < 8) (g0 : ¬ v2 < 0) (g1 : ¬ 255 < v2) (hp : ∀ k, p k < 65536) (hS : fy_S p c ath ase ava) (h : ∀ T : Nat → Int32, fd_Tab (fd_sp p (fd_cc c 1023) 10) T → post (fy_b (decide (T (2 ^ i) < 0 ∨ T (2 ^ i) = v2))) (ath, ase, ava, T)) : wpY_possible post (ath, ase, ava, T) (nI i) v2 := by
  unfold wpY_possible
  dsimp only
  refine br_f (nI_pos (by omega)) (br_f (nI_nlt (a := 7) (b := i) (by omega) (by decide)) (br_f g0 (br_f g1 (br_f (by decide) ?_))))
  refine fy_piece hi hp hS (fun T' hT => ?_)
  have h' := h T' hT
  by_cases n2 : T' (2 ^ i) < 0
  · rw [fy_b1 (decide_eq_true (Or.inl n2))] at h'
    exact br_t n2 h'
  · refine br_f n2 ?_
    by_cases z : T' (2 ^ i) = v2
    · rw [fy_b1 (decide_eq_true (Or.inr z))] at h'
      exact br_t z h'
    · rw [fy_b0 (fun y => (of_decide_eq_true y).elim n2 z)] at h'
      exact br_f z h'
theorem i_vc_possible {k : Nat} {u : SX} {v : SY} (I : i_Rel k u v) (hk : k + 3 ≤ 1536) (v1 : Int32) (v2 : Int32) : wpX_possible (fun r u' => wpY_possible (fun r' v' => r' = r ∧ i_Rel (k + 3) u' v') v v1 v2) u v1 v2 := by
  obtain ⟨p, c, ap, ar, ath, ase, ava, T, rfl, rfl, J⟩ := I
  rcases fd_ix 7 (by decide) v1 with h | ⟨h0, h8, h⟩ | ⟨i, hi, rfl, h0, h8, h⟩
  · unfold wpX_possible wpY_possible
    dsimp only
    exact br_t h (br_t rfl (br_t h ⟨rfl, fd_rel J⟩))
  · unfold wpX_possible wpY_possible
    dsimp only
    exact br_f h0 (br_t h8 (br_t rfl (br_f h0 (br_t h ⟨rfl, fd_rel J⟩))))
  · by_cases g0 : v2 < 0
    · unfold wpX_possible wpY_possible
      dsimp only
      exact br_f h0 (br_f h8 (br_f (by decide) (br_t g0 (br_t rfl (br_f h0 (br_f h (br_t g0 (br_t rfl ⟨rfl, fd_rel J⟩))))))))
    · by_cases g1 : 255 < v2
      · unfold wpX_possible wpY_possible
        dsimp only
        exact br_f h0 (br_f h8 (br_f (by decide) (br_f g0 (br_t g1 (br_t rfl (br_f h0 (br_f h (br_f g0 (br_t g1 (br_t rfl ⟨rfl, fd_rel J⟩))))))))))
      · refine fx_possible hi g0 g1 J.1 J.2.1 (fun ar' => ?_)
        refine fy_possible hi g0 g1 J.1 J.2.2.1 (fun T' hT => ⟨?_, fd_rel J⟩)
        rw [fd_sv J.1 J.2.2.2 hT (fd_p8 hi)]
theorem i_vc_enough {k : Nat} {u : SX} {v : SY} (I : i_Rel k u v) (hk : k + 3 ≤ 1536) (v1 : Int32) : wpX_enough (fun r u' => wpY_enough (fun r' v' => r' = r ∧ i_Rel (k + 3) u' v') v v1) u v1 := by
  obtain ⟨p, c, ap, ar, ath, ase, ava, T, rfl, rfl, J⟩ := I
  exact fx_enough v1 J.1 J.2.1 (fun ar' => fy_enough v1 J.1 J.2.2.1 (fun T' => ⟨rfl, fd_rel J⟩))
theorem fd_nar (t : Bool) : narrow .boolean (.int (fy_b t)) = .int (fy_b t) := by cases t <;> rfl
theorem fx_idle {post : Int32 → SX → Prop} {c : Nat → Bool} {p : Nat → Nat} {ap ar : Nat → Int32} {j : Nat} (hj : j < 10) (hc : c j = true) (hp : ∀ k, p k < 65536) (hap : ∀ k, k < 10 → ap k = nI (p k)) (h : ∀ ar' : Nat → Int32, post (fy_b (decide (fd_rr p c (((1 : Int32) <<< (nI j &&& 31)) ^^^ (-1)) = fd_rr p c 1023))) (nI (fd_pc c 10), ap, ar')) : wpX_idle post (nI (fd_pc c 10), ap, ar) (nI j) := by
  unfold wpX_idle
  dsimp only
  refine fx_k1 hj hc (br_f (by decide) ?_)
  refine fx_enough _ hp hap (fun ar' => ?_)
  have h' := h ar'
  generalize decide (fd_rr p c (((1 : Int32) <<< (nI j &&& 31)) ^^^ (-1)) = fd_rr p c 1023) = b at h' ⊢
  cases b
  · exact br_t rfl h'
  · exact br_f (by decide) h'
theorem fy_idle {post : Int32 → SY → Prop} {p : Nat → Nat} {c : Nat → Bool} {ath ase ava T : Nat → Int32} {j : Nat} (hj : j < 10) (hc : c j = true) (hp : ∀ k, p k < 65536) (hS : fy_S p c ath ase ava) (h : ∀ T : Nat → Int32, post (fy_b (decide (fd_rr p c (1023 &&& (((1 : Int32) <<< (nI j &&& 31)) ^^^ (-1))) = fd_rr p c 1023))) (ath, ase, ava, T)) : wpY_idle post (ath, ase, ava, T) (nI j) := by
  unfold wpY_idle
  dsimp only
  refine br_f (nI_pos (by omega)) (br_f (nI_nlt (a := 9) (b := j) (by omega) (by decide)) ⟨vp_in_nI hj (by decide), ?_⟩)
  rw [nI_clamp (by omega), hS.1 j hj]
  refine br_f (fy_bn hc) (fy_enough _ hp hS (fun T' => ?_))
  exact ⟨fd_nar _, h T'⟩
theorem i_vc_idle {k : Nat} {u : SX} {v : SY} (I : i_Rel k u v) (hk : k + 3 ≤ 1536) (v1 : Int32) : wpX_idle (fun r u' => wpY_idle (fun r' v' => r' = r ∧ i_Rel (k + 3) u' v') v v1) u v1 := by
  obtain ⟨p, c, ap, ar, ath, ase, ava, T, rfl, rfl, J⟩ := I
  rcases fd_ix 9 (by decide) v1 with h | ⟨h0, h10, h⟩ | ⟨j, hj, rfl, h0, h10, h⟩
  · unfold wpX_idle wpY_idle
    dsimp only
    exact br_t h (br_t rfl (br_t h ⟨rfl, fd_rel J⟩))
  · unfold wpX_idle wpY_idle
    dsimp only
    exact br_f h0 (br_t h10 (br_t rfl (br_f h0 (br_t h ⟨rfl, fd_rel J⟩))))
  · by_cases hc : c j = true
    · refine fx_idle hj hc J.1 J.2.1 (fun ar' => ?_)
      refine fy_idle hj hc J.1 J.2.2.1 (fun T' => ⟨?_, fd_rel J⟩)
      have er : fd_rr p c (((1 : Int32) <<< (nI j &&& 31)) ^^^ (-1)) = fd_rr p c (1023 &&& (((1 : Int32) <<< (nI j &&& 31)) ^^^ (-1))) := by
        unfold fd_rr
        rw [fd_rowsg 10 (c' := fd_cc c (1023 &&& (((1 : Int32) <<< (nI j &&& 31)) ^^^ (-1)))) (fun i hi => by unfold fd_cc; rw [fd_notk hj hi])]
      rw [er]
    · unfold wpX_idle wpY_idle
      dsimp only
      refine fx_k0 hj (fd_nt hc) (br_t rfl ?_)
      refine br_f h0 (br_f h ⟨vp_in_nI hj (by decide), ?_⟩)
      rw [nI_clamp (by omega), J.2.2.1.1 j hj]
      exact br_t (fy_b0 hc) ⟨rfl, fd_rel J⟩
theorem i_vc_drop {k : Nat} {u : SX} {v : SY} (I : i_Rel k u v) (hk : k + 3 ≤ 1536) (v1 : Int32) : wpX_drop (fun r u' => wpY_drop (fun r' v' => r' = r ∧ i_Rel (k + 3) u' v') v v1) u v1 := by
  obtain ⟨p, c, ap, ar, ath, ase, ava, T, rfl, rfl, J⟩ := I
  unfold wpX_drop wpY_drop
  dsimp only
  rcases fd_ix 9 (by decide) v1 with h | ⟨h0, h10, h⟩ | ⟨j, hj, rfl, h0, h10, h⟩
  · exact br_t h (br_t rfl (br_t h ⟨rfl, fd_rel J⟩))
  · exact br_f h0 (br_t h10 (br_t rfl (br_f h0 (br_t h ⟨rfl, fd_rel J⟩))))
  · have hin : vp_in (nI j) 10 := vp_in_nI hj (by decide)
    have ha := J.2.2.1.1 j hj
    by_cases hc : c j = true
    · refine fx_k1 hj hc (br_f (by decide) (fun f ef => ?_))
      rw [ef, fd_kdrop c hj]
      refine br_f h0 (br_f h ⟨hin, ?_⟩)
      rw [nI_clamp (by omega), ha]
      refine br_f (fy_bn hc) ⟨hin, fun a ea => ⟨rfl, ?_⟩⟩
      rw [ea]
      refine fd_rel (p := p) ⟨J.1, J.2.1, ⟨fun i hi => ?_, J.2.2.1.2⟩, fun x hx => J.2.2.2 x (fd_spm 10 (fun i _ ht => ?_) x hx)⟩
      · by_cases e : i = j
        · rw [e, pk_us]
          dsimp only
          rw [if_pos rfl]
          rfl
        · rw [pk_un e]
          dsimp only
          rw [if_neg e]
          exact J.2.2.1.1 i hi
      · by_cases e : i = j
        · rw [if_pos e] at ht; exact absurd ht (by decide)
        · rw [if_neg e] at ht; exact ht
    · refine fx_k0 hj (fd_nt hc) (br_t rfl ?_)
      refine br_f h0 (br_f h ⟨hin, ?_⟩)
      rw [nI_clamp (by omega), ha]
      exact br_t (fy_b0 hc) ⟨rfl, fd_rel J⟩
