/-! the relation, the constructors, the methods of one field -/
def sc_Lat (LT : Nat → Int32) : Prop := ∀ u, u < 4 → ∃ c : Nat, 1 ≤ c ∧ c ≤ 8 ∧ LT u = nI c
/-- the same program, registers, memory, latencies, counters; no unit at work and no register awaited -/
def i_Rel (k : Nat) (u : SX) (v : SY) : Prop :=
  ∃ (n p : Nat) (fc ff fz : Int32) (R M LT O D A B AW CL UC UL UR US : Nat → Int32), u = (nI n, nI p, fc, ff, fz, R, M, LT, O, D, A, B, AW, CL, UC, UL, UR, US) ∧ v = (nI n, nI p, fc, ff, fz, R, M, O, D, A, B, LT) ∧ n ≤ 32 ∧ p ≤ 32 ∧ sc_Lat LT ∧ sc_Wf n O D A B ∧ (∀ x, AW x = 0) ∧ (∀ u, u < 4 → CL u = 0)
theorem sc_mk {k n p : Nat} {fc ff fz : Int32} {R M LT O D A B AW CL UC UL UR US : Nat → Int32} (hn : n ≤ 32) (hp : p ≤ 32) (hL : sc_Lat LT) (hW : sc_Wf n O D A B) (hA : ∀ x, AW x = 0) (hC : ∀ u, u < 4 → CL u = 0) : i_Rel k (nI n, nI p, fc, ff, fz, R, M, LT, O, D, A, B, AW, CL, UC, UL, UR, US) (nI n, nI p, fc, ff, fz, R, M, O, D, A, B, LT) :=
  ⟨n, p, fc, ff, fz, R, M, LT, O, D, A, B, AW, CL, UC, UL, UR, US, rfl, rfl, hn, hp, hL, hW, hA, hC⟩
theorem i_up {k : Nat} {u : SX} {v : SY} (h : i_Rel k u v) : i_Rel (k + 5) u v := h
theorem sc_latU {LT : Nat → Int32} (h : sc_Lat LT) (k : Nat) (x : Int32) : sc_Lat (upd LT k (sc_cl x)) := by
  intro u hu
  by_cases e : u = k
  · rw [e, pk_us]
    exact sc_clin x
  · rw [pk_un e]
    exact h u hu
theorem sc_ysl (post : Int32 → SY → Prop) {fl fp fc ff fz : Int32} {R M O D A B LT : Nat → Int32} (j : Nat) (hj : j < 4) (x : Int32) (h : post 0 (fl, fp, fc, ff, fz, R, M, O, D, A, B, upd LT j (sc_cl x))) : wpY_setLatency post (fl, fp, fc, ff, fz, R, M, O, D, A, B, LT) (nI j) x := by
  have cj : (nI j).toNatClampNeg = j := nI_clamp (by omega)
  have ij : vp_in (nI j) 4 := vp_in_nI hj (by decide)
  refine br_f (nI_pos (by omega)) (br_t (nI_lt (b := 4) hj (by decide)) ⟨ij, nm_r (e' := upd LT j x) (by rw [cj]) ?_⟩)
  unfold sc_cl at h
  by_cases h1 : 1 ≤ x
  · rw [if_pos h1] at h
    refine br_t h1 ?_
    by_cases h8 : x ≤ 8
    · rw [if_pos h8] at h
      exact br_t h8 h
    · rw [if_neg h8] at h
      exact br_f h8 ⟨ij, nm_r (e' := upd LT j 8) (by rw [cj, sc_uu]) h⟩
  · rw [if_neg h1] at h
    have h8 : x ≤ 8 := by
      rw [Int32.le_iff_toInt_le] at h1 ⊢
      have e1 : (1 : Int32).toInt = 1 := by decide +kernel
      have e8 : (8 : Int32).toInt = 8 := by decide +kernel
      omega
    exact br_f h1 ⟨ij, nm_r (e' := upd LT j 1) (by rw [cj, sc_uu]) (br_t h8 h)⟩
theorem i_vc0 (k0 : Int32) (k1 : Int32) (k2 : Int32) (k3 : Int32) : wpX_init (fun u => wpY_init (fun v => i_Rel 4 u v) k0 k1 k2 k3) k0 k1 k2 k3 := by
  unfold wpX_init
  refine sc_clamp _ k0 (nm_e ?_)
  refine sc_clamp _ k1 (nm_e ?_)
  refine sc_clamp _ k2 (nm_e ?_)
  refine sc_clamp _ k3 (nm_e ?_)
  unfold wpY_init
  refine sc_ysl _ 0 (by decide) k0 ?_
  refine sc_ysl _ 1 (by decide) k1 ?_
  refine sc_ysl _ 2 (by decide) k2 ?_
  refine sc_ysl _ 3 (by decide) k3 ?_
  refine sc_mk (n := 0) (p := 0) (by decide) (by decide) ?_ (fun j hj => absurd hj (Nat.not_lt_zero j)) (fun _ => rfl) (fun _ _ => rfl)
  intro u hu
  by_cases e3 : u = 3
  · rw [e3, pk_us]
    exact sc_clin k3
  · rw [pk_un e3]
    by_cases e2 : u = 2
    · rw [e2, pk_us]
      exact sc_clin k2
    · rw [pk_un e2]
      by_cases e1 : u = 1
      · rw [e1, pk_us]
        exact sc_clin k1
      · rw [pk_un e1]
        have e0 : u = 0 := by omega
        rw [e0, pk_us]
        exact sc_clin k0
theorem i_vc_setLatency {k : Nat} {u : SX} {v : SY} (I : i_Rel k u v) (hk : k + 5 ≤ 2564) (v1 : Int32) (v2 : Int32) : wpX_setLatency (fun r u' => wpY_setLatency (fun r' v' => r' = r ∧ i_Rel (k + 5) u' v') v v1 v2) u v1 v2 := by
  obtain ⟨n, p, fc, ff, fz, R, M, LT, O, D, A, B, AW, CL, UC, UL, UR, US, rfl, rfl, hn, hp, hL, hW, hA, hC⟩ := I
  unfold wpX_setLatency
  try dsimp only
  refine sc_below _ v1 4 (by decide) (fun z => br_t rfl ?_) (fun j hj e => br_f sc_10 ?_)
  · rcases z with z | z
    · exact br_t z ⟨rfl, sc_mk hn hp hL hW hA hC⟩
    · exact br_f (sc_big (by decide) z).1 (br_f (sc_big (by decide) z).2 ⟨rfl, sc_mk hn hp hL hW hA hC⟩)
  · subst e
    refine sc_clamp _ v2 ⟨vp_in_nI hj (by decide), nm_r (e' := upd LT j (sc_cl v2)) (by rw [nI_clamp (by omega)]) ?_⟩
    exact sc_ysl _ j hj v2 ⟨rfl, sc_mk hn hp (sc_latU hL j v2) hW hA hC⟩
theorem i_vc_latency {k : Nat} {u : SX} {v : SY} (I : i_Rel k u v) (hk : k + 5 ≤ 2564) (v1 : Int32) : wpX_latency (fun r => wpY_latency (fun r' => r' = r ∧ i_Rel (k + 5) u v) v v1) u v1 := by
  have I' : i_Rel (k + 5) u v := I
  obtain ⟨n, p, fc, ff, fz, R, M, LT, O, D, A, B, AW, CL, UC, UL, UR, US, rfl, rfl, hn, hp, hL, hW, hA, hC⟩ := I
  unfold wpX_latency
  try dsimp only
  refine sc_below _ v1 4 (by decide) (fun z => br_t rfl ?_) (fun j hj e => br_f sc_10 ?_)
  · rcases z with z | z
    · exact br_t z ⟨rfl, I'⟩
    · exact br_f (sc_big (by decide) z).1 (br_f (sc_big (by decide) z).2 ⟨rfl, I'⟩)
  · subst e
    have ij : vp_in (nI j) 4 := vp_in_nI hj (by decide)
    exact ⟨ij, br_f (nI_pos (by omega)) (br_t (nI_lt (b := 4) hj (by decide)) ⟨ij, rfl, I'⟩)⟩
theorem i_vc_register {k : Nat} {u : SX} {v : SY} (I : i_Rel k u v) (hk : k + 5 ≤ 2564) (v1 : Int32) : wpX_register (fun r => wpY_register (fun r' => r' = r ∧ i_Rel (k + 5) u v) v v1) u v1 := by
  have I' : i_Rel (k + 5) u v := I
  obtain ⟨n, p, fc, ff, fz, R, M, LT, O, D, A, B, AW, CL, UC, UL, UR, US, rfl, rfl, hn, hp, hL, hW, hA, hC⟩ := I
  unfold wpX_register
  try dsimp only
  refine sc_below _ v1 8 (by decide) (fun z => br_t rfl ?_) (fun j hj e => br_f sc_10 ?_)
  · rcases z with z | z
    · exact br_t z ⟨rfl, I'⟩
    · exact br_f (sc_big (by decide) z).1 (br_f (sc_big (by decide) z).2 ⟨rfl, I'⟩)
  · subst e
    have ij : vp_in (nI j) 8 := vp_in_nI hj (by decide)
    exact ⟨ij, br_f (nI_pos (by omega)) (br_t (nI_lt (b := 8) hj (by decide)) ⟨ij, rfl, I'⟩)⟩
theorem i_vc_memory {k : Nat} {u : SX} {v : SY} (I : i_Rel k u v) (hk : k + 5 ≤ 2564) (v1 : Int32) : wpX_memory (fun r => wpY_memory (fun r' => r' = r ∧ i_Rel (k + 5) u v) v v1) u v1 := by
  have I' : i_Rel (k + 5) u v := I
  obtain ⟨n, p, fc, ff, fz, R, M, LT, O, D, A, B, AW, CL, UC, UL, UR, US, rfl, rfl, hn, hp, hL, hW, hA, hC⟩ := I
  unfold wpX_memory
  try dsimp only
  refine sc_below _ v1 32 (by decide) (fun z => br_t rfl ?_) (fun j hj e => br_f sc_10 ?_)
  · rcases z with z | z
    · exact br_t z ⟨rfl, I'⟩
    · exact br_f (sc_big (by decide) z).1 (br_f (sc_big (by decide) z).2 ⟨rfl, I'⟩)
  · subst e
    have ij : vp_in (nI j) 32 := vp_in_nI hj (by decide)
    exact ⟨ij, br_f (nI_pos (by omega)) (br_t (nI_lt (b := 32) hj (by decide)) ⟨ij, rfl, I'⟩)⟩
theorem i_vc_setRegister {k : Nat} {u : SX} {v : SY} (I : i_Rel k u v) (hk : k + 5 ≤ 2564) (v1 : Int32) (v2 : Int32) : wpX_setRegister (fun r u' => wpY_setRegister (fun r' v' => r' = r ∧ i_Rel (k + 5) u' v') v v1 v2) u v1 v2 := by
  obtain ⟨n, p, fc, ff, fz, R, M, LT, O, D, A, B, AW, CL, UC, UL, UR, US, rfl, rfl, hn, hp, hL, hW, hA, hC⟩ := I
  unfold wpX_setRegister
  try dsimp only
  refine sc_below _ v1 8 (by decide) (fun z => br_t rfl ?_) (fun j hj e => br_f sc_10 ?_)
  · rcases z with z | z
    · exact br_t z ⟨rfl, sc_mk hn hp hL hW hA hC⟩
    · exact br_f (sc_big (by decide) z).1 (br_f (sc_big (by decide) z).2 ⟨rfl, sc_mk hn hp hL hW hA hC⟩)
  · subst e
    have ij : vp_in (nI j) 8 := vp_in_nI hj (by decide)
    exact ⟨ij, nm_e (br_f (nI_pos (by omega)) (br_t (nI_lt (b := 8) hj (by decide)) ⟨ij, nm_e ⟨rfl, sc_mk hn hp hL hW hA hC⟩⟩))⟩
theorem i_vc_setMemory {k : Nat} {u : SX} {v : SY} (I : i_Rel k u v) (hk : k + 5 ≤ 2564) (v1 : Int32) (v2 : Int32) : wpX_setMemory (fun r u' => wpY_setMemory (fun r' v' => r' = r ∧ i_Rel (k + 5) u' v') v v1 v2) u v1 v2 := by
  obtain ⟨n, p, fc, ff, fz, R, M, LT, O, D, A, B, AW, CL, UC, UL, UR, US, rfl, rfl, hn, hp, hL, hW, hA, hC⟩ := I
  unfold wpX_setMemory
  try dsimp only
  refine sc_below _ v1 32 (by decide) (fun z => br_t rfl ?_) (fun j hj e => br_f sc_10 ?_)
  · rcases z with z | z
    · exact br_t z ⟨rfl, sc_mk hn hp hL hW hA hC⟩
    · exact br_f (sc_big (by decide) z).1 (br_f (sc_big (by decide) z).2 ⟨rfl, sc_mk hn hp hL hW hA hC⟩)
  · subst e
    have ij : vp_in (nI j) 32 := vp_in_nI hj (by decide)
    exact ⟨ij, nm_e (br_f (nI_pos (by omega)) (br_t (nI_lt (b := 32) hj (by decide)) ⟨ij, nm_e ⟨rfl, sc_mk hn hp hL hW hA hC⟩⟩))⟩
theorem i_vc_jump {k : Nat} {u : SX} {v : SY} (I : i_Rel k u v) (hk : k + 5 ≤ 2564) (v1 : Int32) : wpX_jump (fun r u' => wpY_jump (fun r' v' => r' = r ∧ i_Rel (k + 5) u' v') v v1) u v1 := by
  obtain ⟨n, p, fc, ff, fz, R, M, LT, O, D, A, B, AW, CL, UC, UL, UR, US, rfl, rfl, hn, hp, hL, hW, hA, hC⟩ := I
  unfold wpX_jump
  try dsimp only
  refine sc_below _ v1 32 (by decide) (fun z => br_t rfl ?_) (fun j hj e => br_f sc_10 ?_)
  · rcases z with z | z
    · exact br_t z ⟨rfl, sc_mk hn hp hL hW hA hC⟩
    · exact br_f (sc_big (by decide) z).1 (br_f (sc_big (by decide) z).2 ⟨rfl, sc_mk hn hp hL hW hA hC⟩)
  · subst e
    exact br_f (nI_pos (by omega)) (br_t (nI_lt (b := 32) hj (by decide)) ⟨rfl, sc_mk hn (by omega) hL hW hA hC⟩)
theorem i_vc_length {k : Nat} {u : SX} {v : SY} (I : i_Rel k u v) (hk : k + 5 ≤ 2564) : wpX_length (fun r => wpY_length (fun r' => r' = r ∧ i_Rel (k + 5) u v) v) u := by
  have I' : i_Rel (k + 5) u v := I
  obtain ⟨n, p, fc, ff, fz, R, M, LT, O, D, A, B, AW, CL, UC, UL, UR, US, rfl, rfl, hn, hp, hL, hW, hA, hC⟩ := I
  exact ⟨rfl, I'⟩
theorem i_vc_pc {k : Nat} {u : SX} {v : SY} (I : i_Rel k u v) (hk : k + 5 ≤ 2564) : wpX_pc (fun r => wpY_pc (fun r' => r' = r ∧ i_Rel (k + 5) u v) v) u := by
  have I' : i_Rel (k + 5) u v := I
  obtain ⟨n, p, fc, ff, fz, R, M, LT, O, D, A, B, AW, CL, UC, UL, UR, US, rfl, rfl, hn, hp, hL, hW, hA, hC⟩ := I
  exact ⟨rfl, I'⟩
theorem i_vc_faultCount {k : Nat} {u : SX} {v : SY} (I : i_Rel k u v) (hk : k + 5 ≤ 2564) : wpX_faultCount (fun r => wpY_faultCount (fun r' => r' = r ∧ i_Rel (k + 5) u v) v) u := by
  have I' : i_Rel (k + 5) u v := I
  obtain ⟨n, p, fc, ff, fz, R, M, LT, O, D, A, B, AW, CL, UC, UL, UR, US, rfl, rfl, hn, hp, hL, hW, hA, hC⟩ := I
  exact ⟨rfl, I'⟩
theorem i_vc_firstFault {k : Nat} {u : SX} {v : SY} (I : i_Rel k u v) (hk : k + 5 ≤ 2564) : wpX_firstFault (fun r => wpY_firstFault (fun r' => r' = r ∧ i_Rel (k + 5) u v) v) u := by
  have I' : i_Rel (k + 5) u v := I
  obtain ⟨n, p, fc, ff, fz, R, M, LT, O, D, A, B, AW, CL, UC, UL, UR, US, rfl, rfl, hn, hp, hL, hW, hA, hC⟩ := I
  exact ⟨rfl, I'⟩
theorem i_vc_lastFault {k : Nat} {u : SX} {v : SY} (I : i_Rel k u v) (hk : k + 5 ≤ 2564) : wpX_lastFault (fun r => wpY_lastFault (fun r' => r' = r ∧ i_Rel (k + 5) u v) v) u := by
  have I' : i_Rel (k + 5) u v := I
  obtain ⟨n, p, fc, ff, fz, R, M, LT, O, D, A, B, AW, CL, UC, UL, UR, US, rfl, rfl, hn, hp, hL, hW, hA, hC⟩ := I
  exact ⟨rfl, I'⟩
theorem i_vc_stopped {k : Nat} {u : SX} {v : SY} (I : i_Rel k u v) (hk : k + 5 ≤ 2564) : wpX_stopped (fun r => wpY_stopped (fun r' => r' = r ∧ i_Rel (k + 5) u v) v) u := by
  have I' : i_Rel (k + 5) u v := I
  obtain ⟨n, p, fc, ff, fz, R, M, LT, O, D, A, B, AW, CL, UC, UL, UR, US, rfl, rfl, hn, hp, hL, hW, hA, hC⟩ := I
  by_cases h : n ≤ p ∨ O p = 0
  · exact sc_xs1 _ hn hp h (sc_ys1 _ hn hp h ⟨rfl, I'⟩)
  · have h1 : p < n := by
      have : ¬ n ≤ p := fun z => h (Or.inl z)
      omega
    have h2 : ¬ O p = 0 := fun z => h (Or.inr z)
    exact sc_xs0 _ hn h1 h2 (sc_ys0 _ hn h1 h2 ⟨rfl, I'⟩)
theorem i_vc_reset {k : Nat} {u : SX} {v : SY} (I : i_Rel k u v) (hk : k + 5 ≤ 2564) : wpX_reset (fun u' => wpY_reset (fun v' => i_Rel (k + 5) u' v') v) u := by
  obtain ⟨n, p, fc, ff, fz, R, M, LT, O, D, A, B, AW, CL, UC, UL, UR, US, rfl, rfl, hn, hp, hL, hW, hA, hC⟩ := I
  exact sc_mk (k := k + 5) (n := 0) (p := 0) (by decide) (by decide) hL (fun j hj => absurd hj (Nat.not_lt_zero j)) hA hC
