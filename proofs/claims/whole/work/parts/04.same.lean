/-! ===== what rows and table say alike ===== -/
theorem fd_q {s v : Nat} (hv : v < 256) : (s * 256 + v) / 256 = s ∧ (s * 256 + v) % 256 = v := by omega
theorem fd_redlt {R : Nat → Nat} {L : Nat → Prop} (hE : fd_E R L) (hL : fd_cl L) (hb : ∀ x, L x → x < 65536) {q : Nat} (hq : q < 65536) : fd_red R 8 q < 65536 := by
  obtain ⟨y, hy, e⟩ := fd_red1 hE hL 8 q (by omega)
  rw [e]
  exact Nat.xor_lt_two_pow (n := 16) hq (hb y hy)
theorem fd_same {R : Nat → Nat} {L : Nat → Prop} {T : Nat → Int32} (hE : fd_E R L) (hL : fd_cl L) (hb : ∀ x, L x → x < 65536) (hT : fd_Tab L T) {s : Nat} (hs : s < 256) : fd_red R 8 (s * 256) < 256 ↔ fd_g T s = true := by
  obtain ⟨y, hy, _, h1, h2⟩ := fd_redL hE hL hb (s * 256)
  have es : s * 256 / 256 = s := by omega
  rw [es] at h1 h2
  rw [fd_gi hT hs]
  exact ⟨fun t => ⟨y, hy, h1 t⟩, h2⟩
theorem fd_sameval {R : Nat → Nat} {L : Nat → Prop} {T : Nat → Int32} (hE : fd_E R L) (hL : fd_cl L) (hb : ∀ x, L x → x < 65536) (hT : fd_Tab L T) (hc : fd_con L) {s : Nat} (hs : s < 256) : (fd_red R 8 (s * 256) < 256 → T s = nI (fd_red R 8 (s * 256) % 256)) ∧ (¬ fd_red R 8 (s * 256) < 256 → T s = -1) := by
  obtain ⟨y, hy, e, h1, h2⟩ := fd_redL hE hL hb (s * 256)
  have es : s * 256 / 256 = s := by omega
  have em : s * 256 % 256 = 0 := by omega
  rw [es] at h1 h2
  constructor
  · intro t
    have t2 := fd_Tval hT hL hc hy (hb y hy)
    rw [h1 t] at t2
    rw [t2, e, fd_m, em, Nat.zero_xor]
  · intro t
    exact fd_Tnone hT hs (fun z => t (h2 z))
theorem fd_samew {R : Nat → Nat} {L : Nat → Prop} {T : Nat → Int32} (hE : fd_E R L) (hL : fd_cl L) (hb : ∀ x, L x → x < 65536) (hT : fd_Tab L T) {w s : Nat} (hw : w < 256) (hs : s < 256) : fd_red (fd_add R 8 (w * 256)) 8 (s * 256) < 256 ↔ (fd_g T s = true ∨ fd_g T (s ^^^ w) = true) := by
  have hE' := fd_addE hE hL 8 (w * 256) (by omega) (show w * 256 < 65536 by omega)
  have hL' := fd_clx hL (w * 256)
  have hb' : ∀ x, (L x ∨ L (x ^^^ (w * 256))) → x < 65536 := by
    rintro x (h | h)
    · exact hb x h
    · have t := Nat.xor_lt_two_pow (n := 16) (hb _ h) (show w * 256 < 65536 by omega)
      rw [fd_xc] at t
      exact t
  obtain ⟨y, hy, _, h1, h2⟩ := fd_redL hE' hL' hb' (s * 256)
  have es : s * 256 / 256 = s := by omega
  have ew : w * 256 / 256 = w := by omega
  have hsw : s ^^^ w < 256 := Nat.xor_lt_two_pow (n := 8) hs hw
  rw [es] at h1 h2
  rw [fd_gi hT hs, fd_gi hT hsw]
  constructor
  · intro t
    have ey := h1 t
    rcases hy with hy | hy
    · exact Or.inl ⟨y, hy, ey⟩
    · exact Or.inr ⟨_, hy, by rw [fd_d, ey, ew]⟩
  · intro t
    apply h2
    rcases t with ⟨x, hx, ex⟩ | ⟨x, hx, ex⟩
    · exact ⟨x, Or.inl hx, ex⟩
    · refine ⟨x ^^^ (w * 256), Or.inr ?_, ?_⟩
      · rw [fd_xc]; exact hx
      · rw [fd_d, ex, ew, fd_xc]
theorem fd_size {R : Nat → Nat} {L : Nat → Prop} {T : Nat → Int32} (hE : fd_E R L) (hL : fd_cl L) (hT : fd_Tab L T) : fd_ct (fd_g T) 256 = 2 ^ fd_rk R 8 :=
  fd_count hE hL (fun s hs => fd_gi hT hs) 8 (Nat.le_refl 8)
theorem fd_takeI {R : Nat → Nat} {L : Nat → Prop} {T : Nat → Int32} (hE : fd_E R L) (hL : fd_cl L) (hb : ∀ x, L x → x < 65536) (hT : fd_Tab L T) (hc : fd_con L) {s v : Nat} (hs : s < 256) (hv : v < 256) : (fd_red R 8 (s * 256 + v) / 256 = 0 ∧ ¬ fd_red R 8 (s * 256 + v) % 256 = 0) ↔ (¬ T s < 0 ∧ ¬ T s = nI v) := by
  obtain ⟨y, hy, e, h1, h2⟩ := fd_redL hE hL hb (s * 256 + v)
  have eq := fd_q (s := s) hv
  rw [eq.1] at h1 h2
  by_cases t : fd_red R 8 (s * 256 + v) < 256
  · have t2 := fd_Tval hT hL hc hy (hb y hy)
    rw [h1 t] at t2
    have em : fd_red R 8 (s * 256 + v) % 256 = v ^^^ y % 256 := by rw [e, fd_m, eq.2]
    rw [t2, em]
    constructor
    · rintro ⟨_, n⟩
      refine ⟨nI_pos (by omega), fun z => n ?_⟩
      rw [nI_eq (by omega) (by omega)] at z
      rw [z, Nat.xor_self]
    · rintro ⟨_, n⟩
      refine ⟨Nat.div_eq_of_lt t, fun z => n ?_⟩
      rw [fd_x0 z]
  · constructor
    · rintro ⟨z, _⟩
      exact absurd (by omega) t
    · rintro ⟨z, _⟩
      exact absurd ((fd_Tneg hT hs).mpr (fun w => t (h2 w))) z
theorem fd_takeC {L : Nat → Prop} {T : Nat → Int32} (hL : fd_cl L) (hb : ∀ x, L x → x < 65536) (hT : fd_Tab L T) (hc : fd_con L) {s v : Nat} (hv : v < 256) (h : ¬ (¬ T s < 0 ∧ ¬ T s = nI v)) : fd_con (fun y => L y ∨ L (y ^^^ (s * 256 + v))) := by
  refine fd_conx hL hc (fun y hy ey => ?_)
  have eq := fd_q (s := s) hv
  rw [eq.1] at ey
  have t2 := fd_Tval hT hL hc hy (hb y hy)
  rw [ey] at t2
  by_cases z : T s = nI v
  · rw [t2, nI_eq (by omega) (by omega)] at z
    omega
  · refine absurd ⟨?_, z⟩ h
    rw [t2]
    exact nI_pos (by omega)
